import java.util.function.Supplier;
import java.util.function.ToIntFunction;

/** The edges that section 4 of the document's terms and promises 19 to 25 name: rings missing, empty, full, gone round. */
public final class RingEdgesTest extends Probe {
  private static final int[] NO_RINGS = {LEAST, -1, 3, 4, MOST};

  public static void main(String[] args) {
    sentence("RINGS 0 .. 2 are missing (at first)", RingEdgesTest::missingAtFirst);
    sentence("or have 0 to 8 numbers (-999 .. 999)", RingEdgesTest::howManyAndHowGreat);
    sentence("with a HAND that is at one of them (at none, if there are none)", RingEdgesTest::handAtNone);
    sentence("NULL -11 (the RING is missing), EMPTY -12 (it has none), ROOM -13 (there would be more than 8)",
        RingEdgesTest::whatTheMachineFinds);
    sentence("of several the first in this order; it changes nothing", RingEdgesTest::ringsByThemselves);
    sentence("A number v is answered as v and 5000", RingEdgesTest::fiveThousand);
    sentence("OUTSIDE (another number is not as told), NOT (not now: as told), FULL, then what the machine finds: "
        + "the first of these that fits", RingEdgesTest::theFirstThatFits);
    sentence("A RING is a new one, with nothing: 0. UNKNOWN.", RingEdgesTest::ring);
    sentence("right behind the one at which the HAND is (which stays; it is at v, if there was none)", RingEdgesTest::addBehindTheHand);
    sentence("how many it has. UNKNOWN; OUTSIDE; NULL; ROOM.", RingEdgesTest::addRefused);
    sentence("The HAND goes n on (0 .. 99), round and round", RingEdgesTest::stepRoundAndRound);
    sentence("the number at which it is then. UNKNOWN; OUTSIDE; NULL; EMPTY.", RingEdgesTest::stepRefused);
    sentence("The number at which the HAND is goes, the HAND is at the next one: that which went.", RingEdgesTest::take);
    sentence("that which went. UNKNOWN; NULL; EMPTY.", RingEdgesTest::takeRefused);
    sentence("The HAND goes m on (1 .. 9), the number there goes (the HAND is at the next one then)", RingEdgesTest::countByEach);
    sentence("and so again, till one is left: that. (With one alone: that.)", RingEdgesTest::countTillOneIsLeft);
    sentence("(With one alone: that.) UNKNOWN; OUTSIDE; NULL; EMPTY.", RingEdgesTest::countRefused);
    sentence("All numbers of a RING together, and 50000. UNKNOWN; NULL.", RingEdgesTest::sum);
    sentence("A RING is missing from now on: how many it had. UNKNOWN; NULL.", RingEdgesTest::drop);
    end("the edges of the rings hold");
  }

  /** In the busy object ring 0 is full, ring 1 has nothing, ring 2 is missing. */
  private static void dueRefused(String what, ToIntFunction<ShuffledViews> call, int answer) {
    dueUnchanged(what, RingEdgesTest::busy, call, answer);
  }

  private static ShuffledViews filled(int size) {
    ShuffledViews x = new ShuffledViews();
    fill(x, 0, size);
    return x;
  }

  /** The numbers of ring 0, from the hand on, once round. */
  private static void dueNumbers(String what, ShuffledViews x, String want) {
    StringBuilder got = new StringBuilder();
    int numbers = x.told(9);
    for (int k = 0; k < numbers; k++) {
      got.append(k == 0 ? "" : " ").append(x.step(0, 0) - 5000);
      x.step(0, 1);
    }
    dueSame(what, got.toString(), want);
  }

  private static void missingAtFirst() {
    for (int r = 0; r < 3; r++) {
      ShuffledViews x = new ShuffledViews();
      due("add " + r, x.add(r, 0), NULL);
      due("step " + r, x.step(r, 0), NULL);
      due("take " + r, x.take(r), NULL);
      due("count " + r, x.count(r, 1), NULL);
      due("sum " + r, x.sum(r), NULL);
      due("drop " + r, x.drop(r), NULL);
      due("numbers", x.told(9), 0);
      due("ring " + r, x.ring(r), 0);
      for (int other = 0; other < 3; other++) {
        due("sum " + other, x.sum(other), other == r ? 50000 : NULL);
      }
    }
    for (int r : NO_RINGS) {
      ShuffledViews x = new ShuffledViews();
      due("ring " + r, x.ring(r), UNKNOWN);
      due("numbers", x.told(9), 0);
    }
  }

  private static void howManyAndHowGreat() {
    for (int size = 0; size <= 8; size++) {
      ShuffledViews x = filled(size);
      due("numbers", x.told(9), size);
      due("drop", x.drop(0), size);
    }
    for (int v : new int[] {-999, -998, -1, 0, 1, 998, 999}) {
      ShuffledViews x = filled(0);
      due("add " + v, x.add(0, v), 1);
      due("the number", x.take(0), v + 5000);
    }
    for (int v : new int[] {LEAST, -1000, 1000, MOST}) {
      due("add " + v, filled(0).add(0, v), OUTSIDE);
    }
    // Like numbers stand side by side.
    ShuffledViews x = filled(0);
    for (int k = 1; k <= 8; k++) {
      due("add", x.add(0, 5), k);
    }
  }

  private static void handAtNone() {
    ShuffledViews x = filled(0);
    due("step", x.step(0, 1), EMPTY);
    due("take", x.take(0), EMPTY);
    due("add", x.add(0, 7), 1);
    due("the hand is at it", x.step(0, 0), 5007);
    due("take", x.take(0), 5007);
    due("at none again", x.step(0, 0), EMPTY);
    x.add(0, 8);
    due("at one again", x.step(0, 0), 5008);
    // Taken from the hand on till there is none: wherever the hand was, it is at the next number that comes.
    for (int size = 1; size <= 8; size++) {
      x = filled(size);
      x.step(0, size - 1);
      for (int k = 0; k < size; k++) {
        due("take", x.take(0), 5000 + (k == 0 ? size : k));
      }
      due("none is left", x.take(0), EMPTY);
      x.add(0, 9);
      x.add(0, 10);
      due("the hand stays", x.step(0, 0), 5009);
    }
  }

  private static void whatTheMachineFinds() {
    dueRefused("add to a missing one", x -> x.add(2, 1), NULL);
    dueRefused("step of a missing one", x -> x.step(2, 1), NULL);
    dueRefused("take of a missing one", x -> x.take(2), NULL);
    dueRefused("count of a missing one", x -> x.count(2, 1), NULL);
    dueRefused("sum of a missing one", x -> x.sum(2), NULL);
    dueRefused("drop of a missing one", x -> x.drop(2), NULL);
    dueRefused("step of an empty one", x -> x.step(1, 0), EMPTY);
    dueRefused("take of an empty one", x -> x.take(1), EMPTY);
    dueRefused("count of an empty one", x -> x.count(1, 9), EMPTY);
    dueRefused("add to a full one", x -> x.add(0, -999), ROOM);
  }

  private static void ringsByThemselves() {
    // A missing ring that was full once is missing, not full, and one that had none is missing, not empty.
    ShuffledViews x = filled(8);
    x.drop(0);
    due("add", x.add(0, 1), NULL);
    x.ring(1);
    x.drop(1);
    due("step", x.step(1, 0), NULL);
    due("take", x.take(1), NULL);
    due("count", x.count(1, 1), NULL);
    // What is done to one ring is not done to another.
    x = new ShuffledViews();
    for (int r = 0; r < 3; r++) {
      fill(x, r, 8 - r);
    }
    x.take(1);
    due("sum 0", x.sum(0), 50036);
    due("sum 1", x.sum(1), 50027);
    due("sum 2", x.sum(2), 50021);
    due("the hand of 0", x.step(0, 0), 5001);
    due("the hand of 1", x.step(1, 0), 5002);
    due("add to 0", x.add(0, 1), ROOM);
    due("add to 1", x.add(1, 1), 7);
  }

  private static void fiveThousand() {
    for (int v : new int[] {-999, -1, 0, 1, 999}) {
      ShuffledViews x = filled(0);
      x.add(0, v);
      due("step", x.step(0, 99), v + 5000);
      due("count", x.count(0, 9), v + 5000);
      due("sum", x.sum(0), v + 50000);
      due("take", x.take(0), v + 5000);
    }
  }

  private static void theFirstThatFits() {
    for (int r : NO_RINGS) {
      dueRefused("add 1000 to ring " + r, x -> x.add(r, 1000), UNKNOWN);
      dueRefused("step -1 of ring " + r, x -> x.step(r, -1), UNKNOWN);
      dueRefused("count 0 of ring " + r, x -> x.count(r, 0), UNKNOWN);
    }
    for (int r = 0; r < 3; r++) {
      int ring = r;
      String state = r == 0 ? " (full)" : r == 1 ? " (empty)" : " (missing)";
      dueRefused("add 1000" + state, x -> x.add(ring, 1000), OUTSIDE);
      dueRefused("add -1000" + state, x -> x.add(ring, -1000), OUTSIDE);
      dueRefused("step 100" + state, x -> x.step(ring, 100), OUTSIDE);
      dueRefused("step -1" + state, x -> x.step(ring, -1), OUTSIDE);
      dueRefused("count 10" + state, x -> x.count(ring, 10), OUTSIDE);
      dueRefused("count 0" + state, x -> x.count(ring, 0), OUTSIDE);
    }
  }

  private static void ring() {
    for (int r : NO_RINGS) {
      dueRefused("ring " + r, x -> x.ring(r), UNKNOWN);
    }
    for (int r = 0; r < 3; r++) {
      ShuffledViews x = busy();
      due("a new one", x.ring(r), 0);
      due("with nothing", x.sum(r), 50000);
      due("its hand is at none", x.take(r), EMPTY);
      due("the others' numbers", x.told(9), r == 0 ? 0 : 8);
      // The hand of what was there is forgotten.
      due("add", x.add(r, 4), 1);
      x.add(r, 6);
      x.add(r, 5);
      due("the hand", x.step(r, 0), 5004);
      due("the next", x.step(r, 1), 5005);
    }
  }

  private static void addBehindTheHand() {
    ShuffledViews x = filled(0);
    due("the first", x.add(0, 1), 1);
    due("the second", x.add(0, 3), 2);
    due("right behind the hand", x.add(0, 2), 3);
    dueNumbers("the hand stays", x, "1 2 3");
    // The hand at the last of the row: what comes is behind it, and ahead of the first.
    x.step(0, 2);
    due("behind the last", x.add(0, 4), 4);
    dueNumbers("behind the last", x, "3 4 1 2");
    x.step(0, 3);
    x.add(0, 9);
    dueNumbers("between", x, "2 9 3 4 1");
    x = filled(7);
    x.step(0, 6);
    due("the eighth", x.add(0, 8), 8);
    dueNumbers("the eighth", x, "7 8 1 2 3 4 5 6");
    x = filled(7);
    x.add(0, 8);
    dueNumbers("the eighth behind the first", x, "1 8 2 3 4 5 6 7");
  }

  private static void addRefused() {
    for (int r : NO_RINGS) {
      dueRefused("add to ring " + r, x -> x.add(r, 0), UNKNOWN);
    }
    for (int v : new int[] {LEAST, -1000, 1000, MOST}) {
      dueRefused("add " + v, x -> x.add(1, v), OUTSIDE);
    }
    dueRefused("add to a missing one", x -> x.add(2, 999), NULL);
    dueRefused("a ninth", x -> x.add(0, 999), ROOM);
    due("an eighth", filled(7).add(0, -999), 8);
    // There is room again when one went.
    ShuffledViews x = filled(8);
    x.take(0);
    due("an eighth", x.add(0, 9), 8);
    due("a ninth", x.add(0, 9), ROOM);
  }

  private static void stepRoundAndRound() {
    for (int size = 1; size <= 8; size++) {
      for (int n : new int[] {0, 1, size - 1, size, size + 1, 2 * size, 98, 99}) {
        ShuffledViews x = filled(size);
        due("step " + n + " of " + size, x.step(0, n), 5001 + n % size);
        due("the hand is there", x.step(0, 0), 5001 + n % size);
      }
    }
    ShuffledViews x = filled(8);
    x.step(0, 7);
    due("from the last to the first", x.step(0, 1), 5001);
    x.step(0, 7);
    due("99 from the last", x.step(0, 99), 5003);
    due("none goes", x.told(9), 8);
  }

  private static void stepRefused() {
    for (int r : NO_RINGS) {
      dueRefused("step of ring " + r, x -> x.step(r, 0), UNKNOWN);
    }
    for (int n : new int[] {LEAST, -1, 100, 101, MOST}) {
      dueRefused("step " + n, x -> x.step(0, n), OUTSIDE);
    }
    dueRefused("of a missing one", x -> x.step(2, 99), NULL);
    dueRefused("of an empty one", x -> x.step(1, 99), EMPTY);
  }

  private static void take() {
    for (int at = 0; at < 4; at++) {
      ShuffledViews x = filled(4);
      x.step(0, at);
      due("take at " + at, x.take(0), 5001 + at);
      due("the next one", x.step(0, 0), 5001 + (at + 1) % 4);
      due("sum", x.sum(0), 50010 - (at + 1));
    }
    ShuffledViews x = filled(8);
    x.step(0, 7);
    due("the last", x.take(0), 5008);
    dueNumbers("the first is next", x, "1 2 3 4 5 6 7");
    x = filled(8);
    due("the first", x.take(0), 5001);
    dueNumbers("the second is next", x, "2 3 4 5 6 7 8");
    x = filled(1);
    due("the only one", x.take(0), 5001);
    due("none", x.told(9), 0);
    due("it is not missing", x.sum(0), 50000);
  }

  private static void takeRefused() {
    for (int r : NO_RINGS) {
      dueRefused("take of ring " + r, x -> x.take(r), UNKNOWN);
    }
    dueRefused("of a missing one", x -> x.take(2), NULL);
    dueRefused("of an empty one", x -> x.take(1), EMPTY);
    Supplier<ShuffledViews> taken = () -> {
      ShuffledViews x = filled(1);
      x.take(0);
      return x;
    };
    dueUnchanged("of one that had one", taken, x -> x.take(0), EMPTY);
  }

  private static void countByEach() {
    // By 1 from 1 of 1 2 3: 2 goes, the hand is at 3; 1 goes. By 9 of 1 2: 2 goes (9 on from 1).
    due("three by 1", filled(3).count(0, 1), 5003);
    due("two by 1", filled(2).count(0, 1), 5001);
    due("two by 2", filled(2).count(0, 2), 5002);
    due("two by 9", filled(2).count(0, 9), 5001);
    for (int size = 1; size <= 8; size++) {
      for (int m = 1; m <= 9; m++) {
        due("count of " + size + " by " + m, filled(size).count(0, m), 5000 + left(size, m));
      }
    }
    // The hand does not begin at the first of the row: by 3 from 7 of 1 .. 8, which is 7 8 1 2 .. 6.
    ShuffledViews x = filled(8);
    x.step(0, 6);
    due("from 7 on", x.count(0, 3), 5000 + (left(8, 3) + 5) % 8 + 1);
  }

  /** Who is left of 1 .. size, the hand at 1, by the known rule of Josephus. */
  private static int left(int size, int m) {
    int left = 0;
    for (int k = 2; k <= size; k++) {
      left = (left + m + 1) % k;
    }
    return left + 1;
  }

  private static void countTillOneIsLeft() {
    for (int size = 1; size <= 8; size++) {
      ShuffledViews x = filled(size);
      int last = x.count(0, 3);
      due("one is left", x.told(9), 1);
      due("the hand is at it", x.step(0, 0), last);
      due("with one alone", x.count(0, 9), last);
      due("it stays", x.told(9), 1);
      due("sum", x.sum(0), last + 45000);
      due("add", x.add(0, 9), 2);
      due("the hand stays", x.step(0, 0), last);
    }
  }

  private static void countRefused() {
    for (int r : NO_RINGS) {
      dueRefused("count of ring " + r, x -> x.count(r, 1), UNKNOWN);
    }
    for (int m : new int[] {LEAST, -1, 0, 10, 11, MOST}) {
      dueRefused("count by " + m, x -> x.count(0, m), OUTSIDE);
      due("with one alone, by " + m, filled(1).count(0, m), OUTSIDE);
    }
    dueRefused("of a missing one", x -> x.count(2, 9), NULL);
    dueRefused("of an empty one", x -> x.count(1, 1), EMPTY);
  }

  private static void sum() {
    for (int r : NO_RINGS) {
      dueRefused("sum of ring " + r, x -> x.sum(r), UNKNOWN);
    }
    dueRefused("of a missing one", x -> x.sum(2), NULL);
    dueRefused("of an empty one", x -> x.sum(1), 50000);
    dueRefused("of a full one", x -> x.sum(0), 50036);
    for (int v : new int[] {-999, 999}) {
      ShuffledViews x = filled(0);
      for (int k = 0; k < 8; k++) {
        x.add(0, v);
      }
      due("the least or the greatest", x.sum(0), 50000 + 8 * v);
    }
  }

  private static void drop() {
    for (int r : NO_RINGS) {
      dueRefused("drop of ring " + r, x -> x.drop(r), UNKNOWN);
    }
    dueRefused("of a missing one", x -> x.drop(2), NULL);
    for (int size = 0; size <= 8; size++) {
      ShuffledViews x = filled(size);
      due("drop", x.drop(0), size);
      due("again", x.drop(0), NULL);
      due("add", x.add(0, 1), NULL);
      due("numbers", x.told(9), 0);
      due("a new one", x.ring(0), 0);
      due("with nothing", x.drop(0), 0);
    }
  }
}
