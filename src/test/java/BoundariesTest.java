import java.io.IOException;
import java.nio.file.Files;
import java.nio.file.Path;
import java.util.ArrayList;
import java.util.Arrays;
import java.util.List;
import java.util.Map;
import java.util.TreeMap;
import java.util.TreeSet;
import java.util.regex.Matcher;
import java.util.regex.Pattern;

/**
 * Each sentence of the document that names a boundary has a test of its own
 * here, in the document's words. That the words are the document's, and that
 * no sentence with a finding is left out, is looked up in the document.
 */
public final class BoundariesTest {
  private static final Path DOCUMENT = Path.of("../shared/DOC.md");
  private static final int TERMS = 0;
  private static final int VILLAGER = 0, SMITH = 1, SHY = 2, CHILD = 3, PRIEST = 4, THIEF = 5;
  private static final int WORK = 1, PURSE = 2, NAME = 3, KEPT = 4, SLIP = 5, EARNS = 6;
  private static final long BEYOND = -1000000001L, FULL = -1000000002L, KIND = -1000000003L, NONE = -1000000004L,
      STATE = -1000000005L, MISSING = -1000000006L, SIZE = -1000000007L;
  private static final int LOW = Integer.MIN_VALUE, HIGH = Integer.MAX_VALUE;
  private static final int[] MOST = {0, 20, 99999, 99, 99};
  private static final int[] FIRST = {0, 5, 10, 50, 0};

  private interface World {
    FridaySlips made();
  }

  private interface Act {
    long on(FridaySlips x);
  }

  private interface PersonAct {
    long on(FridaySlips x, int person);
  }

  private static final Map<Integer, TreeSet<String>> TESTED = new TreeMap<>();
  private static int wrong = 0;
  private static String sentence = "";

  public static void main(String[] args) throws IOException {
    Watchdog.watch();
    findingTerms();
    fridayTerms();
    peopleTerms();
    earningTerms();
    fridayGoes();
    drawTerms();
    tokenTerms();
    itemTerms();
    faultTerms();
    otherTerms();
    people();
    lotsAndFridays();
    whoIsWho();
    whatIsBest();
    theText();
    sheets();
    copies();
    laysBookRead();
    images();
    lookUp(Files.readString(DOCUMENT));
    System.out.println(wrong == 0 ? "all boundaries hold" : wrong + " things are not as due");
    if (wrong != 0) System.exit(1);
  }

  // ---- what the tests lean on

  /** What follows tests this sentence of a promise, or of the terms. */
  private static void sentence(int promise, String words) {
    TESTED.computeIfAbsent(promise, p -> new TreeSet<>()).add(words);
    sentence = (promise == TERMS ? "terms: " : "promise " + promise + ": ") + words;
  }

  private static void due(String what, long got, long want) {
    if (got == want) return;
    wrong++;
    System.out.println("[" + sentence + "] " + what + " answered " + got + ", due is " + want);
  }

  private static FridaySlips with(int... kinds) {
    FridaySlips x = new FridaySlips();
    for (int kind : kinds) x.person(kind);
    return x;
  }

  private static FridaySlips eight() {
    return with(0, 0, 0, 0, 0, 0, 0, 0);
  }

  private static FridaySlips row(FridaySlips x, int s, int bits, long... numbers) {
    x.sheet(s, bits, numbers.length);
    for (int i = 0; i < numbers.length; i++) x.write(s, i, numbers[i]);
    return x;
  }

  /** A village in which nothing that an act could spoil is as at first. */
  private static FridaySlips busy() {
    FridaySlips x = with(VILLAGER, CHILD, SMITH, THIEF, CHILD, PRIEST);
    row(x, 0, 8, 2, 4, 0, 5, 1, 3);
    row(x, 1, 16, 11, 12, 13, 14);
    row(x, 2, 64, 10, 10, 10, 10, 10, 10);
    x.seed(77);
    x.set(3, WORK, 9);
    x.image();
    x.swap(0, 2);
    x.swap(2, 5);
    x.swap(1, 4);
    x.set(2, KEPT, 6);
    x.fridays(2);
    x.person(7);
    tell(x, "shy work 7");
    return x;
  }

  /** As busy, but with a full hat and a full tape. */
  private static FridaySlips brimful() {
    FridaySlips x = busy();
    x.person(SHY);
    x.person(CHILD);
    for (int i = 0; i < 27; i++) x.feed(0x20202020, 4);
    x.feed(0x2020, 2);
    return x;
  }

  private static FridaySlips atFriday(int friday) {
    FridaySlips x = with(VILLAGER, SMITH, CHILD);
    x.swap(0, 1);
    for (int i = 0; i < friday / 60; i++) x.fridays(60);
    if (friday % 60 > 0) x.fridays(friday % 60);
    return x;
  }

  private static void tell(FridaySlips x, String text) {
    int at = 0;
    for (; at + 4 <= text.length(); at += 4) {
      x.feed(text.charAt(at) << 24 | text.charAt(at + 1) << 16 | text.charAt(at + 2) << 8 | text.charAt(at + 3), 4);
    }
    for (; at < text.length(); at++) x.feed(text.charAt(at), 1);
  }

  private static int told(FridaySlips x, String text) {
    tell(x, text);
    return x.village();
  }

  private static void seeVillage(FridaySlips x, List<Long> seen) {
    for (int what = 0; what < 4; what++) seen.add((long) x.count(what));
    seen.add((long) x.now(0));
    for (int p = 0; p < 8; p++) {
      for (int what = 0; what <= SLIP; what++) seen.add((long) x.of(p, what));
    }
  }

  private static void seeSheets(FridaySlips x, List<Long> seen) {
    for (int s = 0; s < 4; s++) {
      for (int i = 0; i < 9; i++) seen.add(x.write(s, i, 0x123456789abcdef0L));
      seen.add(x.write(s, 0, 0L));
    }
  }

  /** All that an object holds but status; what is on the tape and in the image is told by what it makes. */
  private static List<Long> all(FridaySlips x) {
    List<Long> seen = new ArrayList<>();
    seeVillage(x, seen);
    seeSheets(x, seen);
    seen.add((long) x.village());
    seeVillage(x, seen);
    seen.add((long) x.undo());
    seeVillage(x, seen);
    return seen;
  }

  private static void alike(String what, FridaySlips x, FridaySlips y) {
    List<Long> one = all(x);
    List<Long> other = all(y);
    for (int i = 0; i < one.size(); i++) due(what + ", what is held, number " + i, one.get(i), other.get(i));
  }

  /** The act answers the finding, is counted once as that, and changes nothing else. */
  private static void refused(String call, World world, long finding, Act act) {
    FridaySlips x = world.made();
    FridaySlips untouched = world.made();
    due(call, act.on(x), finding);
    for (int which = -1; which < 7; which++) {
      int more = which == -1 || BEYOND - which == finding ? 1 : 0;
      due("status(" + which + ") after " + call, x.status(which), untouched.status(which) + more);
    }
    alike(call, x, untouched);
  }

  private static void nobody(String call, PersonAct act) {
    for (int p : new int[] {-1, 6, 7, 8, 32, LOW, HIGH}) {
      refused(call + " of " + p, BoundariesTest::busy, BEYOND, x -> act.on(x, p));
    }
    refused(call + " of 0 of none", FridaySlips::new, BEYOND, x -> act.on(x, 0));
    FridaySlips x = busy();
    int found = x.status(0);
    act.on(x, 0);
    act.on(x, 5);
    due("the first and the last one are there for " + call, x.status(0), found);
    refused(call + " of a 9th", BoundariesTest::brimful, BEYOND, b -> act.on(b, 8));
  }

  private static void slipsDue(FridaySlips x, int... slips) {
    for (int p = 0; p < slips.length; p++) due("slip of " + p, x.of(p, SLIP), slips[p]);
  }

  private static void neverAlike(String what, FridaySlips x) {
    int set = 0;
    int people = x.count(0);
    for (int p = 0; p < people; p++) {
      int slip = x.of(p, SLIP);
      due("a slip of one there " + what, slip >= 0 && slip < people ? 1 : 0, 1);
      set |= 1 << slip;
    }
    due("all slips " + what, set, (1 << people) - 1);
  }

  // ---- terms

  private static void findingTerms() {
    sentence(TERMS, "FINDINGS are answers below -1000000000: -1000000001 BEYOND, -1000000002 FULL, -1000000003 KIND, "
        + "-1000000004 NONE, -1000000005 STATE, -1000000006 MISSING, -1000000007 SIZE (in longs, too).");
    refused("person(6)", BoundariesTest::busy, -1000000001L, x -> x.person(6));
    refused("person(0)", BoundariesTest::brimful, -1000000002L, x -> x.person(0));
    refused("as(0, 1)", BoundariesTest::busy, -1000000003L, x -> x.as(0, 1));
    refused("undo()", FridaySlips::new, -1000000004L, x -> x.undo());
    refused("swap(0, 1)", BoundariesTest::busy, -1000000005L, x -> x.swap(0, 1));
    refused("lays(3)", BoundariesTest::busy, -1000000006L, x -> x.lays(3));
    refused("lays(1)", BoundariesTest::busy, -1000000007L, x -> x.lays(1));
    refused("write(4, 0, 1)", BoundariesTest::busy, -1000000001L, x -> x.write(4, 0, 1L));
    refused("write(3, 0, 1)", BoundariesTest::busy, -1000000006L, x -> x.write(3, 0, 1L));
    FridaySlips like = row(new FridaySlips(), 0, 64, BEYOND, MISSING);
    like.seed((int) NONE);
    due("a z like a finding", like.count(2), NONE);
    due("a z like a finding", like.seed(1), NONE);
    due("a number like a finding", like.write(0, 0, 0L), BEYOND);
    due("a number like a finding", like.write(0, 1, 0L), MISSING);
    due("these are none", like.status(-1), 0);
    inOrder();
    sentence(TERMS, "one that answers a finding changes nothing but status()");
    FridaySlips x = busy();
    int[] found = new int[7];
    for (Map.Entry<Act, Long> refusal : refusals().entrySet()) {
      due("a refused act", refusal.getKey().on(x), refusal.getValue());
      found[(int) (BEYOND - refusal.getValue())]++;
    }
    FridaySlips untouched = busy();
    for (int w = 0; w < 7; w++) due("status(" + w + ")", x.status(w), found[w] + untouched.status(w));
    alike("many refused acts", x, untouched);
  }

  /** One refused call of each act that has a finding in the busy village. */
  private static Map<Act, Long> refusals() {
    Map<Act, Long> all = new java.util.LinkedHashMap<>();
    all.put(x -> x.person(6), BEYOND);
    all.put(x -> x.of(0, 7), BEYOND);
    all.put(x -> x.says(6), BEYOND);
    all.put(x -> x.set(0, 1, 21), BEYOND);
    all.put(x -> x.turn(0, 6), BEYOND);
    all.put(x -> x.as(0, 5), KIND);
    all.put(x -> x.swap(4, 5), STATE);
    all.put(x -> x.fridays(61), BEYOND);
    all.put(x -> x.season(21), BEYOND);
    all.put(x -> x.now(7), BEYOND);
    all.put(x -> x.who(6), BEYOND);
    all.put(x -> x.ring(6), BEYOND);
    all.put(x -> x.on(0, 61, 0), BEYOND);
    all.put(x -> x.itself(6), BEYOND);
    all.put(x -> x.slip(6), BEYOND);
    all.put(x -> x.bestAs(6), BEYOND);
    all.put(x -> x.kind(6), BEYOND);
    all.put(x -> x.odds(2), BEYOND);
    all.put(x -> x.lots(9), BEYOND);
    all.put(x -> x.feed(0, 5), BEYOND);
    all.put(x -> x.sheet(0, 8, -1), SIZE);
    all.put(x -> x.sheet(0, 8, 41), BEYOND);
    all.put(x -> x.write(3, 0, 1L), MISSING);
    all.put(x -> x.copy(0, 0, 1, 0, 1), KIND);
    all.put(x -> x.copy(0, 0, 0, 1, 6), BEYOND);
    all.put(x -> x.lays(1), SIZE);
    all.put(x -> x.lays(2), STATE);
    all.put(x -> x.book(0, 6), BEYOND);
    all.put(x -> x.read(3, 0), MISSING);
    all.put(x -> x.count(4), BEYOND);
    all.put(x -> x.status(7), BEYOND);
    return all;
  }

  /** Calls that two findings fit: the one that is asked first is told. */
  private static void inOrder() {
    sentence(TERMS, "Each act tells its findings in the order in which they are asked");
    World busy = BoundariesTest::busy;
    World brimful = BoundariesTest::brimful;
    refused("person: kind, then full", brimful, BEYOND, x -> x.person(6));
    refused("as: no such one, then of another kind", busy, BEYOND, x -> x.as(6, 1));
    refused("swap: no such one, then age", busy, BEYOND, x -> x.swap(1, 6));
    refused("feed: n, then full", brimful, BEYOND, x -> x.feed(0, 5));
    refused("feed: n, then full", brimful, BEYOND, x -> x.feed(0, 0));
    refused("sheet: no such sheet, then n", busy, BEYOND, x -> x.sheet(4, 8, -1));
    refused("sheet: bits, then n", busy, BEYOND, x -> x.sheet(0, 32, -1));
    refused("write: no such sheet, then number", busy, BEYOND, x -> x.write(-1, -1, 1L));
    refused("write: missing, then number", busy, MISSING, x -> x.write(3, -1, 1L));
    refused("copy: no such sheet, then missing", busy, BEYOND, x -> x.copy(4, 0, 3, 0, 1));
    refused("copy: no such sheet, then missing", busy, BEYOND, x -> x.copy(3, 0, 4, 0, 1));
    refused("copy: missing, then bits and numbers", busy, MISSING, x -> x.copy(0, -1, 3, 0, 1));
    refused("copy: missing, then bits and numbers", busy, MISSING, x -> x.copy(3, 0, 0, 0, -1));
    refused("copy: bits, then numbers", busy, KIND, x -> x.copy(0, -1, 1, -1, -1));
    refused("lays: missing, then size", busy, MISSING, x -> x.lays(3));
    refused("lays: missing, though nobody asks for a number", FridaySlips::new, MISSING, x -> x.lays(0));
    refused("lays: size, then right", () -> row(busy(), 3, 8, 9, 9), SIZE, x -> x.lays(3));
    refused("book: no such sheet, then person", busy, BEYOND, x -> x.book(4, 6));
    refused("book: missing, then person", busy, MISSING, x -> x.book(3, 6));
    refused("read: no such sheet, then person", busy, BEYOND, x -> x.read(4, 6));
    refused("read: missing, then person", busy, MISSING, x -> x.read(3, 6));
    World last = () -> atFriday(9999);
    for (int n : new int[] {LOW, -1, 0, 61, HIGH}) refused("fridays: n, then state", last, BEYOND, x -> x.fridays(n));
    for (int n : new int[] {LOW, -1, 0, 21, HIGH}) refused("season: n, then state", last, BEYOND, x -> x.season(n));
  }

  private static void fridayTerms() {
    sentence(TERMS, "FRIDAY: 0 at first (9999 at most).");
    due("at first", new FridaySlips().now(0), 0);
    FridaySlips x = atFriday(9999);
    due("the last one", x.now(0), 9999);
    x.fridays(1);
    x.season(1);
    due("still", x.now(0), 9999);
    sentence(TERMS, "z: 1 at first; to draw among n: z becomes z * 1103515245 + 12345 (an int), "
        + "and the rest of z >>> 16 by n is drawn.");
    due("at first", new FridaySlips().count(2), 1);
    for (int z : new int[] {0, 1, -1, 2, 65535, 65536, 1 << 30, LOW, LOW + 1, HIGH, HIGH - 1, -12345, 987654321}) {
      for (int n = 2; n <= 8; n++) drawsFrom(z, n);
    }
  }

  /** Reckoned in longs, where nothing wraps around by itself. */
  private static void drawsFrom(int seed, int n) {
    FridaySlips x = with(new int[n]);
    x.seed(seed);
    x.draw();
    int[] slips = new int[n];
    for (int p = 0; p < n; p++) slips[p] = p;
    long z = seed & 0xffffffffL;
    for (int i = n - 1; i > 0; i--) {
      z = z * 1103515245L + 12345L & 0xffffffffL;
      int j = (int) (z / 65536 % (i + 1));
      int slip = slips[i];
      slips[i] = slips[j];
      slips[j] = slip;
    }
    slipsDue(x, slips);
    due("z from " + seed, x.count(2), (int) z);
  }

  private static void peopleTerms() {
    sentence(TERMS, "PEOPLE 0, 1, .. (at most 8)");
    FridaySlips x = new FridaySlips();
    for (int p = 0; p < 8; p++) {
      due("how many", x.count(0), p);
      due("the number", x.person(p % 6), p);
    }
    for (int kind = 0; kind < 6; kind++) due("a 9th", x.person(kind), FULL);
    due("how many", x.count(0), 8);
    sentence(TERMS, "each with WORK (0 to 20; 5 at first), a PURSE (0 to 99999; 10 at first), a NAME (0 to 99; 50 at "
        + "first: the more, the better), KEPT (insults; 0 to 99; 0 at first), and a SLIP: the number of whom it is today "
        + "(its own at first).");
    for (int p = 0; p < 8; p++) {
      due("kind", x.of(p, 0), p % 6);
      for (int what = 1; what <= 4; what++) due("at first", x.of(p, what), FIRST[what]);
      due("slip at first", x.of(p, SLIP), p);
    }
    for (int what = 1; what <= 4; what++) {
      for (int p = 0; p < 8; p += 7) {
        due("the least", x.set(p, what, 0), FIRST[what]);
        due("the most", x.set(p, what, MOST[what]), 0);
        due("below the least", x.set(p, what, -1), BEYOND);
        due("above the most", x.set(p, what, MOST[what] + 1), BEYOND);
        due("is the most", x.of(p, what), MOST[what]);
      }
    }
    sentence(TERMS, "SLIPS of two are never alike.");
    slipsStayApart();
    sentence(TERMS, "A LOT (SLIPS of all) is right, if CHILDREN have SLIPS of CHILDREN, GROWN ones of GROWN ones.");
    due("of nobody", new FridaySlips().now(5), 1);
    due("at home", with(CHILD, VILLAGER).now(5), 1);
    FridaySlips right = with(CHILD, VILLAGER, CHILD, THIEF);
    right.swap(0, 2);
    right.swap(1, 3);
    due("children as children", right.now(5), 1);
    sentence(TERMS, "(It may be wrong, when one becomes of another KIND, or by THE TEXT.)");
    right.turn(3, CHILD);
    due("by a kind: a grown one has a child's slip", right.now(5), 0);
    slipsDue(right, 2, 3, 0, 1);
    right.turn(3, SHY);
    due("a kind of the same age", right.now(5), 1);
    right.turn(0, VILLAGER);
    due("by a kind: a grown one and a child", right.now(5), 0);
    FridaySlips text = with(CHILD, VILLAGER);
    due("a text", told(text, "slip 1 is 0"), 1);
    due("by the text", text.now(5), 0);
    slipsDue(text, 1, 0);
    due("a draw is always right", text.draw(), 2);
    due("a draw is always right", text.now(5), 1);
  }

  private static void slipsStayApart() {
    FridaySlips x = with(0, CHILD, 0, CHILD, 0, 0);
    x.draw();
    neverAlike("after a draw", x);
    x.swap(0, 2);
    x.swap(1, 3);
    neverAlike("after swaps", x);
    x.turn(3, 0);
    x.swap(3, 4);
    neverAlike("after a turn and a swap", x);
    x.image();
    told(x, "slip 0 is 5;child;slip 6 is 0;slip 2 is 2;slip 6 is 6");
    neverAlike("after a text", x);
    told(x, "slip 0 is 3;slip 1 is 3;slip 2 is 3;slip 0 is 9");
    neverAlike("after a text with a fault", x);
    row(x, 0, 8, 0, 0, 0, 0, 0, 0, 0);
    x.lays(0);
    neverAlike("after a lot that is none", x);
    x.undo();
    neverAlike("after an undo", x);
    x.person(0);
    neverAlike("after one more", x);
    x.season(20);
    x.person(0);
    neverAlike("after a season and one more", x);
  }

  private static void earningTerms() {
    sentence(TERMS, "Quotients are cut.");
    FridaySlips x = with(VILLAGER, VILLAGER);
    x.swap(0, 1);
    x.set(0, WORK, 6);
    due("half of 11", x.of(0, EARNS), 5);
    x.turn(0, THIEF);
    due("twice what is cut", x.of(0, EARNS), 10);
    x.turn(0, PRIEST);
    for (int kept = 0; kept <= 8; kept++) {
      x.set(0, KEPT, kept);
      due("7 less a quarter of " + kept, x.of(0, EARNS), 7 - kept / 4);
    }
    sentence(TERMS, "SHY: as VILLAGER, and 4, if its own NAME is below 50.");
    x.turn(0, SHY);
    for (int name = 0; name <= 99; name++) {
      x.set(0, NAME, name);
      x.set(1, NAME, 99 - name);
      due("name " + name, x.of(0, EARNS), name < 50 ? 9 : 5);
    }
    sentence(TERMS, "PRIEST: as SMITH, less a quarter of KEPT (0 at least).");
    FridaySlips priest = with(PRIEST, VILLAGER);
    priest.swap(0, 1);
    int[][] kept = {{27, 1}, {28, 0}, {31, 0}, {32, 0}, {99, 0}};
    for (int[] k : kept) {
      priest.set(0, KEPT, k[0]);
      due("7 less a quarter of " + k[0], priest.of(0, EARNS), k[1]);
    }
    due("all earn", priest.now(4), 5);
    due("fridays", priest.fridays(1), 25);
    sentence(TERMS, "By itself: 0, whatever the KIND.");
    for (int kind = 0; kind < 6; kind++) {
      FridaySlips own = with(kind, VILLAGER);
      own.set(0, NAME, 10);
      due("earns", own.of(0, EARNS), 0);
      due("says", own.says(0), 100);
      due("all earn", own.now(4), 0);
      due("fridays", own.fridays(1), 20);
      due("heard", own.of(0, KEPT), 0);
      due("said", own.of(0, NAME), 10);
    }
    sayingTerms();
  }

  private static void sayingTerms() {
    sentence(TERMS, "VILLAGER: 1, if w is v or more, else -1.");
    int[] more = {1, 1, 3, 0, 2, -2};
    int[] less = {-1, -1, 3, 0, 0, -2};
    for (int kind = 0; kind < 6; kind++) {
      FridaySlips x = with(VILLAGER, VILLAGER);
      x.swap(0, 1);
      x.turn(0, kind);
      for (int work = 0; work <= 20; work++) {
        x.set(0, WORK, work);
        due("kind " + kind + ", work " + work + " to 5", x.says(0), 100 + (work >= 5 ? more[kind] : less[kind]));
      }
    }
    sentence(TERMS, "HEARS (how many insults it keeps, being one with a NAME b): VILLAGER: 2, if b is below 20, else 0.");
    int[] below = {2, 2, 4, 0, 3, 4};
    int[] else20 = {0, 0, 0, 0, 1, 0};
    for (int kind = 0; kind < 6; kind++) {
      for (int b : new int[] {0, 18, 19, 20, 21, 99}) {
        FridaySlips x = with(VILLAGER, VILLAGER);
        x.swap(0, 1);
        x.turn(0, kind);
        x.set(0, NAME, 50);
        x.set(1, NAME, b);
        x.fridays(1);
        due("kind " + kind + " as one with a name " + b, x.of(0, KEPT), b < 20 ? below[kind] : else20[kind]);
        due("the other one hears of 50", x.of(1, KEPT), 0);
      }
    }
  }

  private static void fridayGoes() {
    sentence(TERMS, "A FRIDAY goes (all by what is so as it begins)");
    // 0 hears of 1's name 19 though 2 lifts it to 22; the shy one's name 49 counts though 1 lifts it to 50.
    FridaySlips x = with(VILLAGER, VILLAGER, SHY);
    row(x, 0, 8, 1, 2, 0);
    x.lays(0);
    x.set(1, NAME, 19);
    x.set(2, NAME, 49);
    due("fridays(1)", x.fridays(1), 30 + 5 + 5 + 9);
    due("heard", x.of(0, KEPT), 2);
    due("said of 1", x.of(1, NAME), 20);
    due("said of 2", x.of(2, NAME), 50);
    due("earned for 0", x.of(0, PURSE), 19);
    due("fridays(1)", x.fridays(1), 49 + 15);
    due("heard", x.of(0, KEPT), 2);
    FridaySlips priest = with(VILLAGER, PRIEST);
    priest.swap(0, 1);
    priest.set(1, KEPT, 3);
    priest.set(0, NAME, 0);
    due("kept as it begins", priest.fridays(1), 20 + 5 + 7);
    due("kept then", priest.of(1, KEPT), 6);
    sentence(TERMS, "PURSE is what that one EARNS more (99999 at most)");
    for (int purse : new int[] {0, 99993, 99994, 99995, 99998, 99999}) {
      FridaySlips p = with(VILLAGER, VILLAGER);
      p.swap(0, 1);
      p.set(1, PURSE, purse);
      int then = Math.min(99999, purse + 5);
      due("on from " + purse, p.on(1, 1, 0), then);
      due("fridays from " + purse, p.fridays(1), 15 + then);
      due("purse from " + purse, p.of(1, PURSE), then);
    }
    sentence(TERMS, "NAME what it SAYS (0 to 99 held)");
    int[][] names = {{SHY, 95, 98}, {SHY, 96, 99}, {SHY, 97, 99}, {SHY, 99, 99}, {THIEF, 3, 1}, {THIEF, 2, 0},
        {THIEF, 1, 0}, {THIEF, 0, 0}, {VILLAGER, 98, 99}, {VILLAGER, 99, 99}};
    for (int[] n : names) {
      FridaySlips p = with(n[0], VILLAGER);
      p.swap(0, 1);
      p.set(1, NAME, n[1]);
      due("name on from " + n[1], p.on(1, 1, 1), n[2]);
      p.fridays(1);
      due("name from " + n[1], p.of(1, NAME), n[2]);
    }
    sentence(TERMS, "its own KEPT what it HEARS more (99 at most). FRIDAY is 1 more.");
    int[][] kept = {{SHY, 94, 98}, {SHY, 95, 99}, {SHY, 96, 99}, {SHY, 99, 99}, {PRIEST, 95, 98}, {PRIEST, 96, 99},
        {PRIEST, 97, 99}, {VILLAGER, 97, 99}, {VILLAGER, 98, 99}};
    for (int[] k : kept) {
      FridaySlips p = with(k[0], VILLAGER);
      p.swap(0, 1);
      p.set(1, NAME, 10);
      p.set(0, KEPT, k[1]);
      due("kept on from " + k[1], p.on(0, 1, 2), k[2]);
      p.fridays(1);
      due("kept from " + k[1], p.of(0, KEPT), k[2]);
      due("friday", p.now(0), 1);
    }
  }

  private static void drawTerms() {
    sentence(TERMS, "To DRAW a LOT: SLIPS become one's own; then, for GROWN from the last one down to the second: a draw "
        + "among as many as there are of them up to it, itself, too, and SLIPS of it and of the one drawn (0: the first) "
        + "are swapped; then likewise for CHILDREN.");
    for (int[] few : new int[][] {{}, {VILLAGER}, {CHILD}, {CHILD, THIEF}}) {
      FridaySlips x = with(few);
      x.seed(5);
      due("all have their own", x.draw(), few.length);
      due("nothing to draw among", x.count(2), 5);
    }
    FridaySlips wrongLot = with(CHILD, VILLAGER);
    told(wrongLot, "slip 0 is 1");
    due("own ones first", wrongLot.draw(), 2);
    // From 1 z is 16838, 38526, 10113, .. by >>> 16: the grown ones 1, 3, 4 draw first, then the children 0, 2.
    FridaySlips x = with(CHILD, VILLAGER, CHILD, SMITH, PRIEST);
    // 16838 % 3 is 2: 4 stays; 38526 % 2 is 0: 3 and 1; 10113 % 2 is 1: 2 stays.
    due("draw", x.draw(), 3);
    slipsDue(x, 0, 3, 2, 1, 4);
    due("z", x.count(2), 662824084);
    FridaySlips pair = with(CHILD, CHILD);
    due("0: the first", pair.draw(), 0);
    slipsDue(pair, 1, 0);
  }

  private static void tokenTerms() {
    sentence(TERMS, "THE TEXT of a VILLAGE, from THE TAPE (bytes, at most 120).");
    FridaySlips x = with(0, 0);
    StringBuilder longest = new StringBuilder("slip 0 is 1");
    while (longest.length() < 120) longest.append(' ');
    tell(x, longest.toString());
    due("120 bytes", x.count(1), 120);
    due("one more", x.feed(';', 1), FULL);
    due("a text of 120 bytes", x.village(), 1);
    StringBuilder items = new StringBuilder("slip0is1");
    for (int i = 1; i < 13; i++) items.append(";slip0is").append(1 - i % 2);
    due("13 items", told(x, items.toString()), 13);
    StringBuilder late = new StringBuilder();
    while (late.length() < 119) late.append(' ');
    due("a fault at the 120th byte", told(x, late + "?"), -1 - 119);
    due("the end after 120 blanks", told(x, late + " "), -1 - 120);
    sentence(TERMS, "TOKENS, each as long as can be: WORDS (letters a to z), NUMBERS (digits, 999 at most), SIGN ; ; "
        + "blanks may stand between.");
    for (int b = 0; b < 256; b++) everyByte((char) b);
    due("no blanks", told(with(0), "shy work3purse4name5;child;slip0is1"), 3);
    due("many blanks", told(with(0), "   shy   work  3   ;   slip  0  is   1   "), 2);
    due("words not apart", told(with(0), "shywork 3"), -1);
    due("numbers not apart", told(with(0), "shy work 1 1"), -12);
    due("a number as long as can be", told(with(0), "shy work 11"), 1);
    due("zeros in front", told(with(0), "shy work 0000000020"), 1);
    due("zeros in front", told(with(0), "shy work 0000000021"), -10);
    due("a blank in a word", told(with(0), "sh y"), -1);
  }

  private static void everyByte(char b) {
    boolean letter = b >= 'a' && b <= 'z';
    boolean digit = b >= '0' && b <= '9';
    FridaySlips x = with(0);
    int people = 1;
    int due = letter ? -1 : digit ? -6 : b == ';' ? -7 : b == ' ' ? 1 : -6;
    due("smith and byte " + (int) b, told(x, "smith" + b), due);
    people += due > 0 ? 1 : 0;
    due("people then", x.count(0), people);
    due("byte " + (int) b + " alone", told(x, "" + b), b == ' ' ? -2 : -1);
    due("work 1 and byte " + (int) b, told(x, "shy work 1" + b + " "), digit || b == ' ' ? 1 : b == ';' ? -13 : -11);
    due("byte " + (int) b + " and shy", told(x, b + "shy"), b == ' ' ? 1 : -1);
  }

  private static void itemTerms() {
    sentence(TERMS, "TEXT: ITEM { ; ITEM }.");
    String[][] texts = {{"shy", "1"}, {"shy;shy", "2"}, {"shy;", "-5"}, {";shy", "-1"}, {"shy;;shy", "-5"},
        {"shy shy", "-5"}, {"", "-1"}, {" ", "-2"}, {";", "-1"}, {"shy ; ", "-7"}};
    for (String[] t : texts) due("'" + t[0] + "'", told(with(0), t[0]), Integer.parseInt(t[1]));
    sentence(TERMS, "the name of a KIND (villager smith shy child priest thief), perhaps work and a NUMBER (0 to 20), "
        + "perhaps purse and a NUMBER (0 to 999), perhaps name and a NUMBER (0 to 99): one more");
    String[] kinds = {"villager", "smith", "shy", "child", "priest", "thief"};
    for (int kind = 0; kind < 6; kind++) {
      FridaySlips x = with(0);
      due(kinds[kind], told(x, kinds[kind]), 1);
      due("kind", x.of(1, 0), kind);
      for (int what = 1; what <= 4; what++) due("at first", x.of(1, what), FIRST[what]);
      due("its own slip", x.of(1, SLIP), 1);
      due("too short", told(x, kinds[kind].substring(1)), -1);
      due("too short", told(x, kinds[kind].substring(0, kinds[kind].length() - 1)), -1);
      due("too long", told(x, kinds[kind] + "a"), -1);
    }
    String[] parts = {"", "work", "purse", "name"};
    int[] most = {0, 20, 999, 99};
    for (int what = 1; what <= 3; what++) {
      for (int n = 0; n <= 1100; n++) {
        FridaySlips x = new FridaySlips();
        String text = "shy " + parts[what] + " ";
        due(text + n, told(x, text + n), n <= most[what] ? 1 : -1 - text.length());
        if (n <= most[what]) due("is " + n, x.of(0, what), n);
        else due("nobody is there", x.count(0), 0);
      }
    }
    String[] orders = {"shy work 1 purse 1 name 1", "shy work 1 name 1", "shy purse 1 name 1", "shy work 1 purse 1"};
    for (String text : orders) due(text, told(with(0), text), 1);
    sentence(TERMS, "slip, a NUMBER (one of PEOPLE there by then), is, a NUMBER (one there by then): the SLIP of the first "
        + "one and that of whoever has that SLIP are swapped.");
    slipItems();
  }

  private static void slipItems() {
    for (int n = 0; n <= 8; n++) {
      for (int i = 0; i <= 9; i++) {
        int place = i < n ? 1 : -6;
        due("slip " + i + " of " + n, told(with(new int[n]), "slip " + i + " is 0"), place);
        if (n > 0) due("slip is " + i + " of " + n, told(with(new int[n]), "slip 0 is " + i), i < n ? 1 : -11);
      }
    }
    due("not there yet", told(with(0), "slip 1 is 0;shy"), -6);
    due("not there yet", told(with(0), "slip 0 is 1;shy"), -11);
    FridaySlips x = with(0, 0, 0);
    due("there by then", told(x, "shy;slip 3 is 0;slip 0 is 1"), 3);
    // 3 and 0 swap; then 0 has 3's and takes 1's: 1 has 3's then.
    slipsDue(x, 1, 3, 2, 0);
    due("that which it has", told(x, "slip 0 is 1"), 1);
    slipsDue(x, 1, 3, 2, 0);
    due("of other ages", told(x, "child;slip 4 is 2"), 2);
    slipsDue(x, 1, 3, 4, 0, 2);
  }

  private static void fault(String text, int place) {
    FridaySlips x = busy();
    x.wipe();
    FridaySlips untouched = busy();
    untouched.wipe();
    due("'" + text + "'", told(x, text), -1 - place);
    for (int which = -1; which < 7; which++) due("no finding", x.status(which), untouched.status(which));
    due("the tape is empty", x.count(1), 0);
    alike("'" + text + "'", x, untouched);
  }

  private static void faultTerms() {
    sentence(TERMS, "FAULT: the place (from 0) of the first byte of the first TOKEN that can't stand there");
    fault("shy;slip 0 is 2;work;shy;;", 16);
    fault("5", 0);
    fault("is", 0);
    fault("shy work 3 work 3", 11);
    fault("shy purse 3 work 3", 12);
    fault("shy name 3 purse 3", 11);
    fault("shy name 3 work 3", 11);
    fault("shy name 3 name 3", 11);
    fault("shy name 3 slip", 11);
    fault("shy 3", 4);
    fault("shy work purse", 9);
    fault("shy work ;", 9);
    fault("slip slip", 5);
    fault("slip;", 4);
    fault("slip 0 1", 7);
    fault("slip 0;", 6);
    fault("slip 0 is is", 10);
    fault("slip 0 is;", 9);
    fault("slip 0 is 1 1", 12);
    fault("slip 0 is 1 shy", 12);
    fault("slip 0 is 1 is 1", 12);
    fault("shy;slip 0 is 1;slip 0 is 7", 26);
    sentence(TERMS, "(a NUMBER that may not be");
    fault("shy;shy work 21", 13);
    fault("shy purse 1000", 10);
    fault("shy name 100", 9);
    fault("shy work 1000 purse", 9);
    fault("shy purse 4294967296", 10);
    fault("shy purse 4294967301", 10);
    fault("shy purse 18446744073709551616", 10);
    fault("shy purse 10000000000000000000000000000000000000000000000000000000000000000000000000000000", 10);
    fault("slip 6 is 0", 5);
    fault("slip 0 is 6", 10);
    fault("slip 4294967296 is 0", 5);
    fault("slip 1000 is 0", 5);
    sentence(TERMS, "another WORD");
    fault("shy;butcher", 4);
    fault("villagers", 0);
    fault("shy wor 3", 4);
    fault("shy works 3", 4);
    fault("shy purs 3", 4);
    fault("shy nam 3", 4);
    fault("shy names 3", 4);
    fault("slips 0 is 1", 0);
    fault("sli 0 is 1", 0);
    fault("slip 0 i 1", 7);
    fault("slip 0 iss 1", 7);
    fault("shy kept 3", 4);
    String[] before = {"", "", "", "", "", "", "", "shy ", "shy ", "shy ", "slip 0 "};
    String[] words = {"villager", "smith", "shy", "child", "priest", "thief", "slip", "work", "purse", "name", "is"};
    for (int w = 0; w < words.length; w++) {
      for (int i = 0; i < words[w].length(); i++) {
        String other = words[w].substring(0, i) + "q" + words[w].substring(i + 1);
        due(before[w] + other, told(with(0), before[w] + other + " 0"), -1 - before[w].length());
      }
    }
    moreFaults();
  }

  private static void moreFaults() {
    sentence(TERMS, "a byte that begins no TOKEN");
    fault("shy;Shy", 4);
    fault("shy work -1", 9);
    fault("shy,shy", 3);
    fault("shy\nshy", 3);
    fault("shy\t", 3);
    fault("slip 0 is \u0080", 10);
    fault("slip \u00e9 is 0", 5);
    fault("\u0000", 0);
    fault("shy \u00ff", 4);
    fault("shy work 5.", 10);
    sentence(TERMS, "the name of a KIND for a 9th: its own");
    fault("shy;shy;shy", 8);
    fault("shy;slip 0 is 1;child;  priest work 99", 24);
    fault("shy;shy;shyy", 8);
    due("an 8th", told(busy(), ";shy;slip 7 is 6"), 3);
    FridaySlips full = eight();
    due("a 9th", told(full, "shy"), -1);
    due("slips of eight", told(full, "slip 7 is 0"), 1);
    due("a 9th behind slips", told(full, "slip 7 is 1;slip 1 is 7;shy"), -25);
    due("who has 0's slip still", full.who(0), 7);
    sentence(TERMS, "or how many bytes there are if it ends too early.");
    fault("", 0);
    fault("  ", 2);
    fault("shy;", 4);
    fault("shy;  ", 6);
    fault("shy work", 8);
    fault("shy work  ", 10);
    fault("shy work 3 purse", 16);
    fault("shy name", 8);
    fault("slip", 4);
    fault("slip ", 5);
    fault("slip 0", 6);
    fault("slip 0 is", 9);
    fault("slip 0 is ", 10);
    fault("slip 0 is 1;slip", 16);
  }

  private static void otherTerms() {
    sentence(TERMS, "Sets are told by bits.");
    FridaySlips x = eight();
    due("all eight", x.now(3), 255);
    due("none", x.now(2), 0);
    x.turn(7, CHILD);
    x.turn(0, CHILD);
    due("the first and the last one", x.now(2), 129);
    due("a set of one", x.ring(7), 128);
    sentence(TERMS, "ON: n FRIDAYS go on with the same LOT; nothing changes.");
    FridaySlips on = busy();
    on.on(0, 60, 0);
    on.on(5, 1, 2);
    alike("on", on, busy());
    sentence(TERMS, "RING of one: it, whom it is, whom that one is, and so on.");
    FridaySlips eight = eight();
    for (int p = 0; p < 8; p++) due("by itself", eight.ring(p), 1 << p);
    for (int p = 1; p < 8; p++) {
      eight.swap(0, p);
      for (int q = 0; q <= p; q++) due("of " + (p + 1), eight.ring(q), (1 << p + 1) - 1);
    }
    sentence(TERMS, "SHEETS 0 to 3 are rows of at most 40 numbers of 8, 16 or 64 bits, or MISSING (at first).");
    FridaySlips s = new FridaySlips();
    for (int i = 0; i < 4; i++) due("at first", s.write(i, 0, 1L), MISSING);
    for (int bits : new int[] {8, 16, 64}) {
      for (int i = 0; i < 4; i++) {
        due("40", s.sheet(i, bits, 40), 40);
        due("the 40th", s.write(i, 39, 1L), 0);
        due("a 41st", s.write(i, 40, 1L), BEYOND);
        due("41", s.sheet(i, bits, 41), BEYOND);
        due("the 40th", s.write(i, 39, 1L), 1);
      }
    }
    due("a 5th sheet", s.sheet(4, 8, 1), BEYOND);
  }

  // ---- promises

  private static void people() {
    newObject();
    sentence(2, "One more, with its own SLIP: the number.");
    FridaySlips x = with(VILLAGER, SMITH);
    x.swap(0, 1);
    due("the number", x.person(THIEF), 2);
    slipsDue(x, 1, 0, 2);
    sentence(2, "BEYOND: kind.");
    for (int kind : new int[] {-1, 6, 7, LOW, HIGH}) {
      refused("person(" + kind + ")", BoundariesTest::busy, BEYOND, v -> v.person(kind));
      refused("person(" + kind + "), full", BoundariesTest::brimful, BEYOND, v -> v.person(kind));
    }
    sentence(2, "FULL.");
    for (int kind = 0; kind < 6; kind++) {
      int k = kind;
      refused("person(" + kind + ")", BoundariesTest::brimful, FULL, v -> v.person(k));
    }
    FridaySlips again = with(0);
    again.image();
    for (int i = 0; i < 9; i++) again.person(0);
    again.set(1, KEPT, 9);
    again.undo();
    due("room again", again.person(0), 1);
    due("a new one", again.of(1, KEPT), 0);
    sentence(3, "BEYOND.");
    nobody("of", (v, p) -> v.of(p, 0));
    nobody("of", (v, p) -> v.of(p, EARNS));
    for (int what : new int[] {-1, 7, LOW, HIGH}) {
      refused("of(0, " + what + ")", BoundariesTest::busy, BEYOND, v -> v.of(0, what));
    }
    sentence(4, "BEYOND.");
    nobody("says", (v, p) -> v.says(p));
    setting();
    turning();
  }

  private static void newObject() {
    sentence(1, "Nobody there; THE TAPE is empty, no image is kept.");
    FridaySlips x = new FridaySlips();
    due("people", x.count(0), 0);
    due("tape", x.count(1), 0);
    due("tape", x.wipe(), 0);
    due("tear", x.tear(), 0);
    due("status", x.status(-1), 0);
    due("undo", x.undo(), NONE);
    due("of(0, 0)", x.of(0, 0), BEYOND);
    due("purses", x.now(1), 0);
    FridaySlips busy = busy();
    due("another object is its own", busy.count(0), 6);
    due("another object is its own", new FridaySlips().count(0), 0);
    due("another object is its own", new FridaySlips().undo(), NONE);
  }

  private static void setting() {
    sentence(5, "BEYOND.");
    for (int what = 1; what <= 4; what++) {
      int w = what;
      nobody("set " + what, (v, p) -> v.set(p, w, 7));
      for (int value : new int[] {-1, MOST[what] + 1, LOW, HIGH, LOW + MOST[what]}) {
        refused("set(0, " + what + ", " + value + ")", BoundariesTest::busy, BEYOND, v -> v.set(0, w, value));
      }
    }
    for (int what : new int[] {-1, 0, 5, 6, LOW, HIGH}) {
      for (int value : new int[] {0, 1, -1}) {
        refused("set(0, " + what + ", " + value + ")", BoundariesTest::busy, BEYOND, v -> v.set(0, what, value));
      }
    }
    sentence(5, "WORK (what 1), PURSE (2), NAME (3), KEPT (4) of one becomes v: what it was.");
    FridaySlips x = with(0, 0);
    for (int what = 1; what <= 4; what++) {
      due("what it was", x.set(1, what, 7 + what), FIRST[what]);
      due("what it was", x.set(1, what, MOST[what]), 7 + what);
      due("what it was", x.set(1, what, 0), MOST[what]);
      due("the other one stays", x.of(0, what), FIRST[what]);
    }
  }

  private static void turning() {
    sentence(6, "BEYOND.");
    nobody("turn", (v, p) -> v.turn(p, SHY));
    for (int kind : new int[] {-1, 6, LOW, HIGH}) {
      refused("turn(0, " + kind + ")", BoundariesTest::busy, BEYOND, v -> v.turn(0, kind));
    }
    sentence(6, "One becomes one of another KIND (SLIPS stay): what it was.");
    FridaySlips x = with(0, 0);
    x.swap(0, 1);
    int was = 0;
    for (int kind : new int[] {5, 0, 3, 4, 1, 2}) {
      due("what it was", x.turn(1, kind), was);
      due("kind", x.of(1, 0), kind);
      slipsDue(x, 1, 0);
      was = kind;
    }
    sentence(7, "BEYOND: no such one, kind.");
    nobody("as", (v, p) -> v.as(p, VILLAGER));
    for (int kind : new int[] {-1, 6, LOW, HIGH}) {
      refused("as(0, " + kind + ")", BoundariesTest::busy, BEYOND, v -> v.as(0, kind));
      refused("as(7, " + kind + ")", BoundariesTest::busy, BEYOND, v -> v.as(7, kind));
    }
    sentence(7, "KIND: it isn't of that kind, nor of one under it.");
    String[] above = {"0", "01", "02", "03", "014", "025"};
    for (int own = 0; own < 6; own++) {
      for (int kind = 0; kind < 6; kind++) {
        int o = own;
        int k = kind;
        World one = () -> with(o);
        if (above[own].indexOf('0' + kind) < 0) refused(own + " as " + kind, one, KIND, v -> v.as(0, k));
        else due(own + " as " + kind, one.made().as(0, kind), 50);
      }
    }
  }

  private static void lotsAndFridays() {
    sentence(8, "BEYOND: also one and the same.");
    nobody("swap", (v, p) -> v.swap(p, p == 0 ? 2 : 0));
    nobody("swap", (v, p) -> v.swap(p == 0 ? 2 : 0, p));
    for (int p = -1; p <= 6; p++) {
      int same = p;
      refused("swap(" + p + ", " + p + ")", BoundariesTest::busy, BEYOND, v -> v.swap(same, same));
    }
    sentence(8, "STATE: one is a CHILD, the other one GROWN.");
    for (int grown : new int[] {0, 2, 3, 5}) {
      for (int child : new int[] {1, 4}) {
        refused("swap", BoundariesTest::busy, STATE, v -> v.swap(grown, child));
        refused("swap", BoundariesTest::busy, STATE, v -> v.swap(child, grown));
      }
    }
    World wrongAges = () -> {
      FridaySlips v = with(VILLAGER, CHILD, VILLAGER);
      told(v, "slip 0 is 1");
      return v;
    };
    refused("by their own age, not their slips'", wrongAges, STATE, v -> v.swap(0, 1));
    refused("by their own age, not their slips'", wrongAges, STATE, v -> v.swap(1, 0));
    refused("by their own age, not their slips'", wrongAges, STATE, v -> v.swap(1, 2));
    for (int p = 0; p <= 2; p += 2) {
      FridaySlips v = wrongAges.made();
      due("two grown ones, one with a child's slip", v.swap(p, 2 - p), 0);
      slipsDue(v, 2, 0, 1);
    }
    sentence(8, "SLIPS of two are swapped: how many have their own then.");
    FridaySlips x = with(0, 1, 2, 3, 4, 3);
    due("swap", x.swap(0, 4), 4);
    due("two children", x.swap(5, 3), 2);
    slipsDue(x, 4, 1, 2, 5, 0, 3);
    due("swapped back", x.swap(4, 0), 4);
    sentence(9, "All SLIPS become one's own: how many were not.");
    due("of nobody", new FridaySlips().home(), 0);
    due("home", x.home(), 2);
    due("at home already", x.home(), 0);
    slipsDue(x, 0, 1, 2, 3, 4, 5);
    FridaySlips all = eight();
    for (int p = 1; p < 8; p++) all.swap(0, p);
    due("all eight", all.home(), 8);
    FridaySlips wrongLot = with(0, CHILD);
    told(wrongLot, "slip 0 is 1");
    due("from a wrong lot", wrongLot.home(), 2);
    sentence(10, "A LOT is DRAWN: how many have their own.");
    due("of nobody", new FridaySlips().draw(), 0);
    FridaySlips drawn = eight();
    for (int i = 0; i < 50; i++) due("draw " + i, drawn.draw(), Integer.bitCount(drawn.now(3)));
    sentence(11, "z becomes v: what it was.");
    FridaySlips z = new FridaySlips();
    int was = 1;
    for (int v : new int[] {0, -1, LOW, HIGH, (int) BEYOND, 1}) {
      due("what it was", z.seed(v), was);
      due("z", z.count(2), v);
      was = v;
    }
    due("no finding", z.status(-1), 0);
    passing();
  }

  private static void passing() {
    sentence(12, "BEYOND.");
    for (int n : new int[] {0, -1, LOW, HIGH}) refused("fridays(" + n + ")", BoundariesTest::busy, BEYOND, v -> v.fridays(n));
    refused("fridays(61)", BoundariesTest::busy, BEYOND, v -> v.fridays(61));
    sentence(12, "n FRIDAYS go (1 to 60), with the same LOT: PURSES of all together then.");
    for (int n : new int[] {1, 2, 59, 60}) {
      FridaySlips x = with(VILLAGER, SMITH, CHILD);
      x.swap(0, 1);
      due("fridays(" + n + ")", x.fridays(n), 30 + 12 * n);
      due("friday", x.now(0), n);
      slipsDue(x, 1, 0, 2);
    }
    due("of nobody", new FridaySlips().fridays(60), 0);
    FridaySlips all = eight();
    row(all, 0, 8, 1, 2, 3, 4, 5, 6, 7, 0);
    all.lays(0);
    for (int p = 0; p < 8; p++) all.set(p, NAME, 10 + p);
    due("of eight", all.fridays(1), 8 * 15);
    for (int p = 0; p < 8; p++) {
      due("purse of " + p + " of eight", all.of(p, PURSE), 15);
      due("name of " + p + " of eight", all.of(p, NAME), 11 + p);
      due("kept of " + p + " of eight", all.of(p, KEPT), 2);
    }
    sentence(12, "STATE: FRIDAY would be above 9999.");
    for (int n : new int[] {1, 2, 59, 60}) {
      refused("fridays(" + n + ")", () -> atFriday(10000 - n), STATE, v -> v.fridays(n));
      refused("fridays(" + n + ")", () -> atFriday(9999), STATE, v -> v.fridays(n));
      FridaySlips x = atFriday(9999 - n);
      due("just so far", x.fridays(n) > 0 ? 1 : 0, 1);
      due("friday", x.now(0), 9999);
    }
    seasons();
  }

  private static void seasons() {
    sentence(13, "BEYOND.");
    for (int n : new int[] {0, -1, LOW, HIGH}) refused("season(" + n + ")", BoundariesTest::busy, BEYOND, v -> v.season(n));
    refused("season(21)", BoundariesTest::busy, BEYOND, v -> v.season(21));
    sentence(13, "n times (1 to 20) a LOT is DRAWN, and a FRIDAY goes: PURSES together then.");
    for (int n : new int[] {1, 2, 19, 20}) {
      FridaySlips x = busy();
      FridaySlips y = busy();
      for (int i = 0; i < n; i++) {
        y.draw();
        y.fridays(1);
      }
      due("season(" + n + ")", x.season(n), y.now(1));
      alike("season(" + n + ")", x, y);
    }
    sentence(13, "STATE: FRIDAY would be above 9999.");
    for (int n : new int[] {1, 2, 19, 20}) {
      refused("season(" + n + ")", () -> atFriday(10000 - n), STATE, v -> v.season(n));
      refused("season(" + n + ")", () -> atFriday(9999), STATE, v -> v.season(n));
      FridaySlips x = atFriday(9999 - n);
      due("just so far", x.season(n) > 0 ? 1 : 0, 1);
      due("friday", x.now(0), 9999);
    }
    sentence(14, "BEYOND.");
    for (int what : new int[] {-1, 7, LOW, HIGH}) {
      refused("now(" + what + ")", BoundariesTest::busy, BEYOND, v -> v.now(what));
    }
    int[] ofNobody = {0, 0, 0, 0, 0, 1, 0};
    for (int what = 0; what < 7; what++) due("now(" + what + ") of nobody", new FridaySlips().now(what), ofNobody[what]);
    FridaySlips rich = eight();
    for (int p = 0; p < 8; p++) {
      rich.set(p, PURSE, 99999);
      rich.set(p, KEPT, 99);
    }
    due("the most purses", rich.now(1), 8 * 99999);
    due("the most insults", rich.now(6), 8 * 99);
  }

  private static void whoIsWho() {
    sentence(15, "BEYOND.");
    nobody("who", (v, p) -> v.who(p));
    sentence(16, "BEYOND.");
    nobody("ring", (v, p) -> v.ring(p));
    sentence(15, "Who is one today: who has its SLIP.");
    FridaySlips x = eight();
    for (int p = 0; p < 8; p++) due("at home", x.who(p), p);
    row(x, 0, 8, 1, 2, 3, 4, 5, 6, 7, 0);
    x.lays(0);
    for (int p = 0; p < 8; p++) due("who(" + p + ")", x.who(p), (p + 7) % 8);
    sentence(17, "How many RINGS there are.");
    due("of nobody", new FridaySlips().rings(), 0);
    due("one for all", x.rings(), 1);
    due("one for each", eight().rings(), 8);
    due("of one", with(0).rings(), 1);
    FridaySlips between = eight();
    row(between, 0, 8, 4, 5, 6, 7, 0, 1, 2, 3);
    between.lays(0);
    due("one between the other", between.rings(), 4);
    row(between, 0, 8, 2, 3, 4, 5, 6, 7, 0, 1);
    between.lays(0);
    due("one between the other", between.rings(), 2);
    sentence(18, "How many pairs have each other's SLIP.");
    due("of nobody", new FridaySlips().pairs(), 0);
    due("one for all", x.pairs(), 0);
    due("one for each", eight().pairs(), 0);
    row(x, 0, 8, 7, 6, 5, 4, 3, 2, 1, 0);
    x.lays(0);
    due("four", x.pairs(), 4);
    row(x, 0, 8, 1, 0, 3, 4, 2, 5, 7, 6);
    x.lays(0);
    due("a ring of three is none", x.pairs(), 2);
    sentence(19, "BEYOND.");
    nobody("on", (v, p) -> v.on(p, 1, 0));
    for (int n : new int[] {-1, 61, LOW, HIGH}) {
      for (int what = 0; what < 3; what++) {
        int w = what;
        refused("on(0, " + n + ", " + what + ")", BoundariesTest::busy, BEYOND, v -> v.on(0, n, w));
      }
    }
    for (int what : new int[] {-1, 3, LOW, HIGH}) {
      refused("on(0, 0, " + what + ")", BoundariesTest::busy, BEYOND, v -> v.on(0, 0, what));
    }
    sentence(19, "PURSE (what 0), NAME (1), KEPT (2) of one ON n FRIDAYS (0 to 60).");
    for (int n : new int[] {0, 1, 59, 60}) {
      FridaySlips then = busy();
      if (n > 0) then.fridays(n);
      FridaySlips now = busy();
      for (int p = 0; p < 6; p++) {
        for (int what = 0; what < 3; what++) due("on(" + p + ", " + n + ")", now.on(p, n, what), then.of(p, PURSE + what));
      }
    }
    FridaySlips last = atFriday(9999);
    due("the last friday is no bound for what isn't so", last.on(0, 1, 0), last.of(0, PURSE) + 7);
    due("no finding", last.status(-1), 0);
    itself();
  }

  /** In which lot 0 of eight grown ones has its own slip first, from a z on; 0: in none of 61. */
  private static int firstItself(int seed) {
    int z = seed;
    for (int lot = 1; lot <= 61; lot++) {
      int[] slips = {0, 1, 2, 3, 4, 5, 6, 7};
      for (int i = 7; i > 0; i--) {
        z = z * 1103515245 + 12345;
        int j = (z >>> 16) % (i + 1);
        int slip = slips[i];
        slips[i] = slips[j];
        slips[j] = slip;
      }
      if (slips[0] == 0) return lot;
    }
    return 0;
  }

  private static int seedFor(int lot) {
    for (int z = 0; z < 10_000_000; z++) if (firstItself(z) == lot) return z;
    due("there is a z for the lot " + lot, 0, 1);
    return 0;
  }

  private static World eightFrom(int z) {
    return () -> {
      FridaySlips x = eight();
      x.seed(z);
      x.swap(0, 5);
      return x;
    };
  }

  private static void itself() {
    sentence(20, "BEYOND.");
    nobody("itself", (v, p) -> v.itself(p));
    sentence(20, "In how many DRAWN LOTS from now on (1 to 60; z goes on, and is as it was in the end) one has its own "
        + "SLIP first.");
    due("the only one", with(THIEF).itself(0), 1);
    due("the only child", with(THIEF, THIEF, CHILD).itself(2), 1);
    for (int lot : new int[] {1, 2, 59, 60}) {
      World world = eightFrom(seedFor(lot));
      FridaySlips x = world.made();
      due("from z " + x.count(2), x.itself(0), lot);
      alike("itself(0)", x, world.made());
    }
    sentence(20, "NONE.");
    refused("in the 61st", eightFrom(seedFor(61)), NONE, x -> x.itself(0));
    refused("in none of 61", eightFrom(seedFor(0)), NONE, x -> x.itself(0));
  }

  private static void whatIsBest() {
    sentence(21, "The most that all together can EARN on one FRIDAY by a right LOT.");
    due("of nobody", new FridaySlips().most(), 0);
    due("of one", with(SMITH).most(), 0);
    due("of one of each age", with(CHILD, THIEF).most(), 0);
    FridaySlips rich = with(THIEF, THIEF, THIEF, THIEF, THIEF, THIEF, THIEF, THIEF);
    for (int p = 0; p < 8; p++) {
      rich.set(p, WORK, 20);
      rich.set(p, NAME, 49);
    }
    due("the most there can be", rich.most(), 8 * 48);
    due("eight children", with(3, 3, 3, 3, 3, 3, 3, 3).most(), 8);
    FridaySlips fewer = with(SMITH, THIEF);
    fewer.image();
    for (int p = 2; p < 8; p++) {
      fewer.person(THIEF);
      due("of " + (p + 1), fewer.most(), 7 + 10 * p);
      fewer.slip(p);
    }
    fewer.undo();
    due("of fewer than before", fewer.most(), 17);
    due("the slip of fewer than before", fewer.slip(0), 1);
    FridaySlips wrongLot = with(THIEF, CHILD);
    told(wrongLot, "slip 0 is 1");
    due("a wrong lot earns more than a right one may", wrongLot.now(4), 11);
    due("by a right lot", wrongLot.most(), 0);
    sentence(22, "BEYOND.");
    nobody("slip", (v, p) -> v.slip(p));
    sentence(22, "(of several that by which the SLIP of 0 is least, then that of 1, and so on)");
    int[] pairs = {1, 0, 3, 2, 5, 4, 7, 6};
    for (int p = 0; p < 8; p++) due("slip(" + p + ") of eight alike", eight().slip(p), pairs[p]);
    FridaySlips poor = with(PRIEST, PRIEST, PRIEST);
    for (int p = 0; p < 3; p++) poor.set(p, KEPT, 99);
    for (int p = 0; p < 3; p++) due("nothing comes in: slip(" + p + ")", poor.slip(p), p);
    int[] three = {1, 2, 0};
    for (int p = 0; p < 3; p++) due("slip(" + p + ") of three", with(0, 0, 0).slip(p), three[p]);
    due("of one", with(SHY).slip(0), 0);
    int[] wrong = {0, 1};
    for (int p = 0; p < 2; p++) due("slip(" + p + ") in a wrong lot", wrongLot.slip(p), wrong[p]);
    betters();
    bestOnes();
    odds();
  }

  private static void betters() {
    sentence(23, "NONE.");
    refused("of nobody", FridaySlips::new, NONE, x -> x.better());
    refused("of one", () -> with(0), NONE, x -> x.better());
    refused("of one of each age", () -> with(0, CHILD), NONE, x -> x.better());
    refused("as good as it is", () -> {
      FridaySlips x = with(0, 0, 0, 0);
      row(x, 0, 8, 1, 2, 3, 0);
      x.lays(0);
      return x;
    }, NONE, x -> x.better());
    refused("nothing comes in either way", () -> {
      FridaySlips x = with(PRIEST, PRIEST);
      x.set(0, KEPT, 99);
      x.set(1, KEPT, 99);
      return x;
    }, NONE, x -> x.better());
    refused("two of another age would be better", () -> {
      FridaySlips x = with(CHILD, 0);
      x.person(CHILD);
      x.swap(0, 2);
      return x;
    }, NONE, x -> x.better());
    sentence(23, "more than as it is: 10 times the lesser and the other one; of several the least. "
        + "(Two CHILDREN, or two GROWN ones.)");
    due("0 and 1", with(0, 0).better(), 1);
    due("two children", with(0, CHILD, CHILD).better(), 12);
    due("the least", eight().better(), 1);
    due("6 and 7", with(0, 3, 3, 3, 3, 3, 1, 1).better(), 67);
    FridaySlips little = with(0, 0, 0);
    little.set(0, WORK, 6);
    row(little, 0, 8, 1, 2, 0);
    little.lays(0);
    due("as it is", little.now(4), 15);
    due("no swap is more", little.better(), NONE);
    FridaySlips one = with(PRIEST, PRIEST, CHILD);
    one.set(0, KEPT, 99);
    one.set(1, KEPT, 27);
    due("1 more is more", one.better(), 1);
    one.set(1, KEPT, 28);
    due("as much is not", one.better(), NONE);
  }

  private static void bestOnes() {
    sentence(24, "BEYOND.");
    nobody("bestAs", (v, p) -> v.bestAs(p));
    sentence(24, "NONE.");
    refused("the only one", () -> with(0), NONE, x -> x.bestAs(0));
    refused("the only child", () -> with(0, CHILD, 0), NONE, x -> x.bestAs(1));
    refused("the only grown one", () -> with(CHILD, CHILD, 0), NONE, x -> x.bestAs(2));
    sentence(24, "The one that, were it one, EARNED most for it");
    FridaySlips four = with(0, 0, 0, 0);
    int[] workOf = {9, 3, 20, 1};
    for (int p = 0; p < 4; p++) four.set(p, WORK, workOf[p]);
    int[] best = {2, 2, 0, 2};
    for (int p = 0; p < 4; p++) due("less before it and behind it, for " + p, four.bestAs(p), best[p]);
    due("what the other one earns counts", with(VILLAGER, SMITH, VILLAGER).bestAs(2), 1);
    due("what the other one earns counts", with(THIEF, VILLAGER, SMITH).bestAs(0), 2);
    sentence(24, "(not itself; a CHILD for a CHILD, a GROWN one for a GROWN one); of several the least.");
    due("the least", with(0, 0, 0).bestAs(0), 1);
    due("the least", with(0, 0, 0).bestAs(1), 0);
    due("the least", with(0, 0, 0).bestAs(2), 0);
    due("a child", with(CHILD, THIEF, CHILD).bestAs(2), 0);
    due("a grown one that earns nothing", with(PRIEST, CHILD, THIEF).bestAs(2), 0);
    FridaySlips poor = with(THIEF, PRIEST, CHILD);
    poor.set(1, KEPT, 99);
    due("nothing is most, too", poor.bestAs(0), 1);
    sentence(25, "BEYOND.");
    nobody("kind", (v, p) -> v.kind(p));
    sentence(25, "The KIND as one of which one EARNS most now; of several the least.");
    for (int kind = 0; kind < 6; kind++) due("by itself", with(kind).kind(0), VILLAGER);
    FridaySlips x = with(0, 0);
    x.swap(0, 1);
    int[][] works = {{0, 0, SMITH}, {0, 1, SMITH}, {2, 1, SMITH}, {2, 2, SMITH}, {2, 3, SMITH}, {2, 4, THIEF}};
    for (int[] w : works) {
      x.set(0, WORK, w[0]);
      x.set(1, WORK, w[1]);
      due("work " + w[0] + " and " + w[1], x.kind(0), w[2]);
    }
    x.set(0, NAME, 49);
    x.set(0, WORK, 0);
    x.set(1, WORK, 0);
    due("a thief's 8", x.kind(0), THIEF);
  }

  private static void odds() {
    sentence(26, "BEYOND.");
    for (int what : new int[] {-1, 2, LOW, HIGH}) {
      refused("odds(" + what + ")", BoundariesTest::busy, BEYOND, v -> v.odds(what));
    }
    sentence(26, "a fraction in lowest terms: above (what 0), below the line (1).");
    int[][] odds = {{1, 1}, {0, 1}, {1, 2}, {1, 3}, {3, 8}, {11, 30}, {53, 144}, {103, 280}, {2119, 5760}};
    for (int n = 0; n <= 8; n++) {
      int[] children = new int[n];
      Arrays.fill(children, CHILD);
      due(n + " grown ones, above", with(new int[n]).odds(0), odds[n][0]);
      due(n + " grown ones, below", with(new int[n]).odds(1), odds[n][1]);
      due(n + " children, above", with(children).odds(0), odds[n][0]);
      due(n + " children, below", with(children).odds(1), odds[n][1]);
    }
    due("an only child: never, above", with(0, 0, CHILD).odds(0), 0);
    due("an only child: never, below", with(0, 0, CHILD).odds(1), 1);
    due("four and four, above", with(0, 3, 0, 3, 0, 3, 0, 3).odds(0), 9);
    due("four and four, below", with(0, 3, 0, 3, 0, 3, 0, 3).odds(1), 64);
    sentence(27, "BEYOND.");
    for (int k : new int[] {-1, 9, LOW, HIGH}) refused("lots(" + k + ")", BoundariesTest::busy, BEYOND, v -> v.lots(k));
    sentence(27, "How many right LOTS there are in which just k (0 to 8) have their own SLIP.");
    int[] eight = {14833, 14832, 7420, 2464, 630, 112, 28, 0, 1};
    for (int k = 0; k <= 8; k++) {
      due("lots(" + k + ") of eight", eight().lots(k), eight[k]);
      due("lots(" + k + ") of nobody", new FridaySlips().lots(k), k == 0 ? 1 : 0);
      due("lots(" + k + ") of one", with(CHILD).lots(k), k == 1 ? 1 : 0);
      due("lots(" + k + ") of one of each age", with(CHILD, 0).lots(k), k == 2 ? 1 : 0);
    }
  }

  private static void theText() {
    sentence(28, "BEYOND: n.");
    for (int n : new int[] {0, -1, 5, LOW, HIGH}) {
      refused("feed(0, " + n + ")", BoundariesTest::busy, BEYOND, x -> x.feed(0x20202020, n));
      refused("feed(0, " + n + "), full", BoundariesTest::brimful, BEYOND, x -> x.feed(0x20202020, n));
    }
    sentence(28, "FULL.");
    for (int n = 1; n <= 4; n++) {
      int more = n;
      World nearly = () -> {
        FridaySlips x = with(0);
        tell(x, " ".repeat(121 - more));
        return x;
      };
      refused("feed(_, " + n + ")", nearly, FULL, x -> x.feed(0x20202020, more));
      refused("feed(_, " + n + ") to 120", BoundariesTest::brimful, FULL, x -> x.feed(0x20202020, more));
      FridaySlips x = with(0);
      tell(x, " ".repeat(120 - n));
      due("just so many", x.feed(0x20202020, n), 120);
    }
    sentence(28, "THE TAPE gets the n lowest bytes of a number behind it, the highest of these first (n 1 to 4): how many "
        + "it has.");
    String[] faults = {"-1", "-2", "-3", "-4"};
    for (int n = 1; n <= 4; n++) {
      FridaySlips x = with(0);
      due("how many", x.feed(0xff202020 >> 8 * (4 - n), n), n);
      due("its highest first", x.village(), -1);
      x.feed(0x202020ff, n);
      due("its lowest last", x.village(), Integer.parseInt(faults[n - 1]));
    }
    FridaySlips shy = with(0);
    shy.feed('s', 1);
    shy.feed('h' << 8 | 'y', 2);
    due("behind it", shy.village(), 1);
    shy.feed(0xff737779, 3);
    due("swy", shy.village(), -1);
    shy.feed(0xff736879, 3);
    due("the others don't come", shy.village(), 1);
    sentence(29, "THE TAPE is empty: how many it had.");
    due("nothing", new FridaySlips().wipe(), 0);
    FridaySlips x = brimful();
    due("all", x.wipe(), 120);
    due("bytes", x.count(1), 0);
    due("nothing", x.wipe(), 0);
    due("from the start again", told(x, "slip 0 is 2"), 1);
    sentence(30, "With a FAULT: -1 less its place (nothing changes but that THE TAPE is empty; no finding).");
    fault("shy;slip 0 is 2;slip 2 is 3;x", 28);
    fault("child work 1;slip 6 is 0;shy name 100", 34);
    fault("", 0);
    sentence(30, "THE TAPE is THE TEXT of a VILLAGE, whose ITEMS come to what there is, and empty then: how many ITEMS.");
    FridaySlips v = busy();
    due("behind what there is", v.village(), 1);
    due("one more", v.count(0), 7);
    due("empty then", v.count(1), 0);
    due("work", v.of(6, WORK), 7);
    due("an empty text", v.village(), -1);
    due("z stays", v.count(2), 77);
    due("friday stays", v.now(0), 2);
  }

  private static void sheets() {
    sentence(31, "BEYOND: no such sheet, other bits.");
    for (int s : new int[] {-1, 4, LOW, HIGH}) {
      for (int n : new int[] {0, 1, -1, 41}) refused("sheet(" + s + ")", BoundariesTest::busy, BEYOND, x -> x.sheet(s, 8, n));
      refused("sheet(" + s + ", 0, 0)", BoundariesTest::busy, BEYOND, x -> x.sheet(s, 0, 0));
    }
    for (int bits : new int[] {-1, 1, 7, 9, 15, 17, 24, 32, 63, 65, 72, 128, 256 + 8, -8, -16, -64, LOW, HIGH}) {
      for (int n : new int[] {0, 1, -1, 41}) {
        refused("sheet(0, " + bits + ", " + n + ")", BoundariesTest::busy, BEYOND, x -> x.sheet(0, bits, n));
      }
    }
    sentence(31, "SIZE: n is below 0 (also with bits 0).");
    for (int bits : new int[] {0, 8, 16, 64}) {
      for (int n : new int[] {-1, -40, LOW}) {
        for (int s = 0; s < 4; s++) {
          int which = s;
          refused("sheet(" + s + ", " + bits + ", " + n + ")", BoundariesTest::busy, SIZE, x -> x.sheet(which, bits, n));
        }
      }
    }
    sentence(31, "BEYOND: n is above 40 (also with bits 0).");
    for (int bits : new int[] {0, 8, 16, 64}) {
      for (int n : new int[] {41, 42, HIGH}) {
        refused("sheet(0, " + bits + ", " + n + ")", BoundariesTest::busy, BEYOND, x -> x.sheet(0, bits, n));
      }
    }
    sentence(31, "A sheet has n numbers, all 0, of 8, 16 or 64 bits; bits 0: it is MISSING: n (0 if it is MISSING).");
    for (int bits : new int[] {8, 16, 64}) {
      for (int n : new int[] {0, 1, 40}) freshSheet(bits, n);
    }
    sentence(32, "BEYOND: no such sheet.");
    for (int s : new int[] {-1, 4, LOW, HIGH}) {
      for (int i : new int[] {0, -1}) refused("write(" + s + ")", BoundariesTest::busy, BEYOND, x -> x.write(s, i, 5L));
    }
    sentence(32, "MISSING.");
    for (int i : new int[] {0, -1, 40, LOW, HIGH}) {
      refused("write(3, " + i + ")", BoundariesTest::busy, MISSING, x -> x.write(3, i, 5L));
    }
    sentence(32, "BEYOND: no such number.");
    for (int i : new int[] {-1, 6, 40, LOW, HIGH}) {
      refused("write(0, " + i + ")", BoundariesTest::busy, BEYOND, x -> x.write(0, i, 5L));
    }
    refused("of no numbers", () -> row(busy(), 3, 64), BEYOND, x -> x.write(3, 0, 5L));
    sentence(32, "Number i of a sheet becomes v (its lowest bits): what it was.");
    lowestBits();
  }

  private static void freshSheet(int bits, int n) {
    FridaySlips x = row(new FridaySlips(), 2, 64, 1, 2, 3);
    due("n", x.sheet(2, bits, n), n);
    for (int i = 0; i < n; i++) due("all 0", x.write(2, i, 77L), 0);
    due("no more", x.write(2, n, 1L), BEYOND);
    due("anew", x.sheet(2, bits, n), n);
    for (int i = 0; i < n; i++) due("all 0 again", x.write(2, i, 77L), 0);
    for (int gone : new int[] {0, 1, 40}) {
      x.sheet(2, bits, n);
      due("0 if it is missing", x.sheet(2, 0, gone), 0);
      due("missing", x.write(2, 0, 1L), MISSING);
    }
    x.sheet(2, bits, 40);
    for (int i = 0; i < 40; i++) due("all 0 after it was missing", x.write(2, i, 0L), 0);
  }

  private static void lowestBits() {
    long[] values = {0, 1, 127, 128, 129, 255, 256, 257, 32767, 32768, 32769, 65535, 65536, 65537, -1, -128, -129, -32768,
        -32769, HIGH, LOW, 1L << 32, 1L << 40, Long.MAX_VALUE, Long.MIN_VALUE, Long.MIN_VALUE + 1};
    FridaySlips x = new FridaySlips();
    x.sheet(0, 8, 2);
    x.sheet(1, 16, 2);
    x.sheet(2, 64, 2);
    long was = 0;
    for (long v : values) {
      due("8 bits of what was " + was, x.write(0, 1, v), was << 56 >> 56);
      due("16 bits of what was " + was, x.write(1, 1, v), was << 48 >> 48);
      due("64 bits", x.write(2, 1, v), was);
      was = v;
    }
    for (int s = 0; s < 3; s++) due("its neighbour stays", x.write(s, 0, 0L), 0);
    due("no finding", x.status(-1), 0);
  }

  private static void copies() {
    sentence(33, "BEYOND: no such sheet (either).");
    for (int s : new int[] {-1, 4, LOW, HIGH}) {
      refused("copy from " + s, BoundariesTest::busy, BEYOND, x -> x.copy(s, 0, 0, 0, 1));
      refused("copy to " + s, BoundariesTest::busy, BEYOND, x -> x.copy(0, 0, s, 0, 1));
      refused("copy from " + s + " to a missing one", BoundariesTest::busy, BEYOND, x -> x.copy(s, 0, 3, 0, 1));
      refused("copy to " + s + " from a missing one", BoundariesTest::busy, BEYOND, x -> x.copy(3, 0, s, 0, 1));
    }
    sentence(33, "MISSING: one is.");
    for (int n : new int[] {0, 1, -1, 41}) {
      refused("copy from a missing one", BoundariesTest::busy, MISSING, x -> x.copy(3, 0, 0, 0, n));
      refused("copy to a missing one", BoundariesTest::busy, MISSING, x -> x.copy(0, 0, 3, 0, n));
      refused("copy of a missing one to itself", BoundariesTest::busy, MISSING, x -> x.copy(3, 0, 3, 0, n));
    }
    sentence(33, "KIND: they are not of as many bits.");
    for (int s = 0; s < 3; s++) {
      for (int t = 0; t < 3; t++) {
        if (s == t) continue;
        int from = s;
        int to = t;
        for (int n : new int[] {0, 1, -1, 41}) {
          refused("copy from " + s + " to " + t, BoundariesTest::busy, KIND, x -> x.copy(from, 0, to, 0, n));
        }
      }
    }
    sentence(33, "BEYOND: one has not so many, or from, to or n is below 0.");
    // Sheet 0 has six numbers, sheet 3 three.
    World two = () -> row(busy(), 3, 8, 7, 8, 9);
    int[][] beyond = {{-1, 0, 1}, {0, -1, 1}, {0, 0, -1}, {LOW, 0, 1}, {0, LOW, 1}, {0, 0, LOW}, {-1, -1, 0}, {4, 0, 3},
        {5, 0, 2}, {6, 0, 1}, {7, 0, 0}, {0, 0, 4}, {0, 1, 3}, {0, 3, 1}, {0, 4, 0}, {HIGH, 0, 1}, {0, HIGH, 1},
        {0, 0, HIGH}, {1, 1, HIGH}, {HIGH, HIGH, HIGH}, {HIGH, 0, 0}, {0, HIGH, 0}, {LOW, LOW, LOW}, {1, 0, HIGH},
        {0, -1, 0}, {-1, 0, 0}, {2, 2, -1}};
    for (int[] b : beyond) {
      refused("copy" + Arrays.toString(b), two, BEYOND, x -> x.copy(0, b[0], 3, b[1], b[2]));
    }
    refused("not so many where it comes from", two, BEYOND, x -> x.copy(3, 0, 0, 0, 4));
    copied(two);
  }

  private static void copied(World two) {
    sentence(33, "n numbers of a sheet from one on come to another one from one on (as they all were): n.");
    int[][] fits = {{0, 0, 3}, {3, 0, 3}, {5, 2, 1}, {0, 0, 0}, {6, 3, 0}, {2, 1, 2}};
    long[] six = {2, 4, 0, 5, 1, 3};
    for (int[] f : fits) {
      long[] then = {7, 8, 9};
      System.arraycopy(six, f[0], then, f[1], f[2]);
      FridaySlips x = two.made();
      due("n", x.copy(0, f[0], 3, f[1], f[2]), f[2]);
      for (int i = 0; i < 3; i++) due("copied " + Arrays.toString(f), x.write(3, i, 0L), then[i]);
      for (int i = 0; i < 6; i++) due("the source stays", x.write(0, i, 0L), six[i]);
    }
    for (int from = 0; from <= 6; from++) {
      for (int to = 0; to <= 6; to++) {
        int n = 6 - Math.max(from, to);
        long[] then = six.clone();
        for (int i = 0; i < n; i++) then[to + i] = six[from + i];
        FridaySlips x = two.made();
        due("n", x.copy(0, from, 0, to, n), n);
        for (int i = 0; i < 6; i++) due("in itself from " + from + " to " + to, x.write(0, i, 0L), then[i]);
      }
    }
    FridaySlips all = new FridaySlips();
    all.sheet(0, 64, 40);
    all.sheet(1, 64, 40);
    all.write(0, 39, Long.MIN_VALUE);
    due("all 40", all.copy(0, 0, 1, 0, 40), 40);
    due("the last", all.write(1, 39, 0L), Long.MIN_VALUE);
  }

  private static void laysBookRead() {
    sentence(34, "BEYOND: no such sheet.");
    for (int s : new int[] {-1, 4, LOW, HIGH}) refused("lays(" + s + ")", BoundariesTest::busy, BEYOND, x -> x.lays(s));
    sentence(34, "MISSING.");
    refused("lays(3)", BoundariesTest::busy, MISSING, x -> x.lays(3));
    sentence(34, "SIZE: not one for each.");
    refused("none", () -> row(busy(), 3, 8), SIZE, x -> x.lays(3));
    refused("one less", () -> row(busy(), 3, 8, 0, 1, 2, 3, 4), SIZE, x -> x.lays(3));
    refused("one more", () -> row(busy(), 3, 8, 0, 1, 2, 3, 4, 5, 6), SIZE, x -> x.lays(3));
    refused("one for nobody", () -> row(new FridaySlips(), 3, 8, 0), SIZE, x -> x.lays(3));
    sentence(34, "STATE: it isn't right.");
    long[][] none = {{0, 0, 2, 3, 4, 5}, {0, 1, 2, 3, 1, 5}, {5, 1, 2, 3, 4, 5}, {1, 0, 2, 3, 4, 5}, {0, 1, 2, 4, 3, 5},
        {0, 1, 2, 3, 4, 6}, {0, 1, 2, 3, 4, -1}, {-1, 1, 2, 3, 4, 5}, {0, 1, 2, 3, 4, 8}, {0, 1, 2, 3, 4, 37},
        {1L << 32, 1, 2, 3, 4, 5}, {0, 1, 2, 3, 4, 5 + (1L << 32)}, {Long.MIN_VALUE, 1, 2, 3, 4, 5},
        {0, 1, 2, 3, 4, Long.MAX_VALUE}, {0, 1, 2, 3, 4, 5 + (1L << 40)}};
    for (long[] lot : none) {
      refused("lays " + Arrays.toString(lot), () -> row(busy(), 3, 64, lot), STATE, x -> x.lays(3));
    }
    sentence(34, "Numbers of a sheet become SLIPS of PEOPLE 0, 1, .., if there is one for each, and they are a right LOT: "
        + "how many have their own.");
    FridaySlips x = busy();
    due("lays", x.lays(0), 0);
    slipsDue(x, 2, 4, 0, 5, 1, 3);
    due("at home", row(x, 3, 16, 0, 1, 2, 3, 4, 5).lays(3), 6);
    due("some", row(x, 3, 64, 5, 4, 2, 3, 1, 0).lays(3), 2);
    slipsDue(x, 5, 4, 2, 3, 1, 0);
    due("of nobody", row(new FridaySlips(), 0, 64).lays(0), 0);
    FridaySlips eight = eight();
    due("of eight", row(eight, 0, 8, 7, 6, 5, 4, 3, 2, 1, 0).lays(0), 0);
    slipsDue(eight, 7, 6, 5, 4, 3, 2, 1, 0);
    FridaySlips again = with(0, CHILD);
    told(again, "slip 0 is 1");
    due("a wrong lot becomes right", row(again, 0, 8, 0, 1).lays(0), 2);
    due("cut to its bits first", row(again, 0, 8, 256, 257).lays(0), 2);
    books();
    reader();
  }

  private static void books() {
    sentence(35, "BEYOND: no such sheet.");
    for (int s : new int[] {-1, 4, LOW, HIGH}) {
      for (int p : new int[] {0, 6}) refused("book(" + s + ")", BoundariesTest::busy, BEYOND, x -> x.book(s, p));
    }
    sentence(35, "MISSING.");
    for (int p : new int[] {0, -1, 6, HIGH}) refused("book(3, " + p + ")", BoundariesTest::busy, MISSING, x -> x.book(3, p));
    sentence(35, "BEYOND: person.");
    for (int p : new int[] {-1, 6, 8, LOW, HIGH}) refused("book(0, " + p + ")", BoundariesTest::busy, BEYOND, x -> x.book(0, p));
    refused("book of nobody", () -> row(new FridaySlips(), 0, 8, 1), BEYOND, x -> x.book(0, 0));
    refused("book of nobody, no numbers", () -> row(new FridaySlips(), 0, 8), BEYOND, x -> x.book(0, 0));
    sentence(35, "A book: PURSE of one ON 0, 1, 2, .. FRIDAYS comes to a sheet, as many as it has numbers: how many.");
    for (int n : new int[] {0, 1, 2, 40}) {
      FridaySlips x = busy();
      x.sheet(3, 64, n);
      due("how many", x.book(3, 2), n);
      for (int i = 0; i < n; i++) due("on " + i, x.write(3, i, 0L), x.on(2, i, 0));
      due("no more", x.write(3, n, 0L), BEYOND);
      x.sheet(3, 0, 0);
      alike("a book of " + n, x, busy());
    }
    FridaySlips held = with(0, 0);
    held.swap(0, 1);
    held.set(0, PURSE, 99990);
    held.sheet(0, 64, 4);
    held.sheet(1, 16, 4);
    held.sheet(2, 8, 4);
    for (int s = 0; s < 3; s++) held.book(s, 0);
    int[] purses = {99990, 99995, 99999, 99999};
    for (int i = 0; i < 4; i++) {
      due("held", held.write(0, i, 0L), purses[i]);
      due("its lowest 16 bits", held.write(1, i, 0L), (short) purses[i]);
      due("its lowest 8 bits", held.write(2, i, 0L), (byte) purses[i]);
    }
    FridaySlips last = atFriday(9999);
    last.sheet(0, 64, 2);
    due("beyond the last friday", last.book(0, 0), 2);
    due("on 1", last.write(0, 1, 0L), last.of(0, PURSE) + 7);
  }

  private static void reader() {
    sentence(36, "BEYOND: no such sheet.");
    for (int s : new int[] {-1, 4, LOW, HIGH}) {
      for (int p : new int[] {0, 6}) refused("read(" + s + ")", BoundariesTest::busy, BEYOND, x -> x.read(s, p));
    }
    sentence(36, "MISSING.");
    for (int p : new int[] {0, -1, 6, HIGH}) refused("read(3, " + p + ")", BoundariesTest::busy, MISSING, x -> x.read(3, p));
    sentence(36, "BEYOND: person.");
    for (int p : new int[] {-1, 6, 8, LOW, HIGH}) refused("read(0, " + p + ")", BoundariesTest::busy, BEYOND, x -> x.read(0, p));
    refused("read of nobody", () -> row(new FridaySlips(), 0, 8, 1), BEYOND, x -> x.read(0, 0));
    sentence(36, "(numbers beyond PEOPLE, PEOPLE beyond numbers are not asked)");
    FridaySlips x = with(VILLAGER, VILLAGER, VILLAGER, CHILD, CHILD);
    due("no numbers: all of three", row(x, 0, 64).read(0, 0), 3);
    due("no numbers: all of two", row(x, 0, 64).read(0, 3), 2);
    due("one number: 0 stays in", row(x, 0, 64, 10).read(0, 0), 1);
    due("one number: 0 stays in, or isn't swapped", row(x, 0, 64, 10).read(0, 1), 2);
    due("just five", row(x, 0, 64, 10, 15, 15, 10, 10).read(0, 1), 1);
    due("a sixth isn't asked", row(x, 0, 64, 10, 15, 15, 10, 10, -3, 99999).read(0, 1), 1);
    due("the fifth is asked", row(x, 0, 64, 10, 15, 15, 10, 11).read(0, 1), 0);
    due("the first is asked", row(x, 0, 64, 11, 15, 15, 10, 10).read(0, 1), 0);
    FridaySlips long40 = row(x, 0, 64, 10, 15, 15, 10, 10);
    long40.sheet(1, 64, 40);
    long40.copy(0, 0, 1, 0, 5);
    due("40 numbers", long40.read(1, 2), 1);
    sentence(36, "how many SLIPS (of CHILDREN, if one is a CHILD, else of GROWN ones; that which it has, too), each swapped "
        + "for its own with whoever has it, make it just so.");
    due("that which it has", row(x, 0, 64, 10, 10, 10, 10, 10).read(0, 4), 1);
    due("two children", row(x, 0, 64, 10, 10, 10, 11, 11).read(0, 4), 1);
    due("a grown one takes no child's", row(x, 0, 64, 10, 10, 10, 11, 11).read(0, 0), 0);
    FridaySlips turned = with(VILLAGER, CHILD, VILLAGER, CHILD);
    told(turned, "slip 0 is 1");
    // 0 has a child's slip: only 0's and 2's count. With 0's all stay in.
    due("a child's slip isn't a grown one's", row(turned, 0, 64).read(0, 0), 2);
    due("its own", row(turned, 0, 64, 10, 10, 10, 10).read(0, 0), 1);
    FridaySlips rich = with(0, 0);
    rich.set(0, PURSE, 99999);
    due("held at the most", row(rich, 0, 64, 99999, 15).read(0, 0), 1);
    due("the most is not gone beyond", row(rich, 0, 64, 100004, 15).read(0, 0), 0);
    rich.set(0, PURSE, 65536 + 5);
    due("a number of 16 bits is no purse above it", row(rich, 0, 16, 65536 + 10, 15).read(0, 0), 0);
    FridaySlips read = busy();
    read.read(2, 0);
    read.read(0, 1);
    alike("read", read, busy());
    FridaySlips last = atFriday(9999);
    due("behind the last friday", row(last, 0, 64).read(0, 0), 2);
    due("no finding", last.status(-1), 0);
  }

  private static void images() {
    sentence(37, "All that section 1 tells (THE TAPE not) is kept: 1.");
    FridaySlips x = busy();
    due("image", x.image(), 1);
    x.turn(0, THIEF);
    for (int what = 1; what <= 4; what++) x.set(5, what, what);
    x.season(3);
    x.person(0);
    x.person(0);
    tell(x, "  ");
    x.write(0, 0, 9L);
    due("undo", x.undo(), 6);
    due("the tape is not kept", x.count(1), 12);
    due("sheets are not kept", x.write(0, 0, 2L), 9);
    FridaySlips y = busy();
    y.image();
    tell(y, "  ");
    alike("an image", x, y);
    FridaySlips wiped = busy();
    wiped.wipe();
    wiped.undo();
    due("the tape doesn't come back", wiped.count(1), 0);
    FridaySlips full = eight();
    full.set(7, WORK, 17);
    full.set(7, PURSE, 777);
    full.set(7, NAME, 7);
    full.set(7, KEPT, 70);
    full.turn(7, SHY);
    full.swap(7, 6);
    full.image();
    full.home();
    full.turn(7, 0);
    for (int what = 1; what <= 4; what++) full.set(7, what, 0);
    due("eight", full.undo(), 8);
    int[] eighth = {SHY, 17, 777, 7, 70, 6};
    for (int what = 0; what <= SLIP; what++) due("the 8th's " + what, full.of(7, what), eighth[what]);
    due("an image of nobody", new FridaySlips().image(), 1);
    sentence(38, "NONE: nothing is kept.");
    refused("undo()", FridaySlips::new, NONE, v -> v.undo());
    refused("undo() after tear()", () -> {
      FridaySlips v = busy();
      v.tear();
      return v;
    }, NONE, v -> v.undo());
    sentence(38, "It becomes what was kept latest (which stays): how many PEOPLE.");
    FridaySlips nobody = new FridaySlips();
    nobody.image();
    nobody.person(0);
    due("nobody", nobody.undo(), 0);
    due("nobody", nobody.count(0), 0);
    nobody.person(0);
    due("it stays", nobody.undo(), 0);
    nobody.person(0);
    nobody.image();
    nobody.person(0);
    due("the latest", nobody.undo(), 1);
    due("the latest", nobody.undo(), 1);
    tearing();
  }

  private static void tearing() {
    sentence(39, "Nothing is kept: 1 if something was, else 0.");
    FridaySlips x = busy();
    due("something was", x.tear(), 1);
    due("nothing was", x.tear(), 0);
    due("nothing was ever", new FridaySlips().tear(), 0);
    due("people stay", x.count(0), 6);
    x.image();
    due("something again", x.undo(), 6);
    due("something again", x.tear(), 1);
    sentence(40, "BEYOND: another what.");
    for (int what : new int[] {-1, 4, LOW, HIGH}) {
      refused("count(" + what + ")", BoundariesTest::busy, BEYOND, v -> v.count(what));
    }
    for (int what = 0; what < 4; what++) due("of nobody", new FridaySlips().count(what), what == 2 ? 1 : 0);
    FridaySlips best = eight();
    for (int p = 0; p < 8; p++) best.set(p, NAME, 99);
    due("the best names", best.count(3), 8 * 99);
    due("a full tape", brimful().count(1), 120);
    sentence(41, "BEYOND (counted from then on): another one.");
    for (int which : new int[] {-2, 7, LOW, HIGH}) {
      refused("status(" + which + ")", BoundariesTest::busy, BEYOND, v -> v.status(which));
    }
    FridaySlips counted = new FridaySlips();
    for (int i = 1; i <= 5; i++) {
      due("another one", counted.status(7), BEYOND);
      due("counted", counted.status(0), i);
      due("counted", counted.status(-1), i);
    }
    sentence(41, "How many acts answered a finding ever (undo() takes none back): which -1: all, 0 to 6: BEYOND to SIZE.");
    FridaySlips ever = busy();
    int beyond = ever.status(0);
    ever.image();
    ever.person(9);
    ever.lays(1);
    due("undo", ever.undo(), 6);
    due("undo takes none back", ever.status(0), beyond + 1);
    due("undo takes none back", ever.status(6), 1);
    due("all", ever.status(-1), beyond + 2);
    due("a fault is none", told(ever, "x") < 0 ? ever.status(-1) : 0, beyond + 2);
  }

  // ---- the document

  /** The words are the document's, and each sentence of a promise that tells a finding is among them. */
  private static void lookUp(String document) {
    sentence = "the document";
    String text = document.replaceAll("\\s+", " ");
    int promises = text.indexOf("## Promise 1:");
    wordsAreThere(TERMS, text.substring(text.indexOf("## Terms"), promises));
    Matcher heads = Pattern.compile("## Promise (\\d+): [^`]*`[^`]*`: (.*?) (?=## )").matcher(text.substring(promises));
    int many = 0;
    while (heads.find()) {
      many++;
      int promise = Integer.parseInt(heads.group(1));
      wordsAreThere(promise, heads.group(2));
      for (String told : heads.group(2).split("(?<=\\.) ")) {
        if (!told.matches("(BEYOND|FULL|KIND|NONE|STATE|MISSING|SIZE)\\b.*")) continue;
        boolean there = TESTED.containsKey(promise) && TESTED.get(promise).contains(told);
        due("promise " + promise + ", tested: " + told, there ? 1 : 0, 1);
      }
      due("promise " + promise + " has a test", TESTED.containsKey(promise) ? 1 : 0, 1);
    }
    due("promises", many, 41);
  }

  private static void wordsAreThere(int promise, String section) {
    for (String words : TESTED.getOrDefault(promise, new TreeSet<>())) {
      due("words of the document: " + words, section.contains(words) ? 1 : 0, 1);
    }
  }
}
