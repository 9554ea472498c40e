import java.util.Random;

/** Each of the 6502's codes, again and again with random registers, flags and bytes, against a slow one (Chip). */
public final class ChipTest {
  private static final Random RANDOM = new Random(6502);

  private Check check;
  private Chip chip;

  public static void main(String[] args) {
    int rounds = args.length > 0 ? Integer.parseInt(args[0]) : 12;
    ChipTest test = new ChipTest();
    for (int round = 0; round < rounds; round++) {
      for (int code = 0; code < 256; code++) {
        for (int i = 0; i < (Chip.isThere(code) ? 8 : 1); i++) {
          test.tryCode(code);
        }
      }
    }
    test.decimals();
    Check.end();
  }

  private void fresh() {
    check = new Check();
    chip = new Chip();
    int[] pages = {0, 64, 128, 222, 256 + 200, 0x5C0};
    for (int at : pages) {
      int[] bytes = new int[34];
      for (int i = 0; i < bytes.length; i++) {
        bytes[i] = RANDOM.nextInt(256);
      }
      put(at, bytes);
    }
  }

  private void put(int at, int... bytes) {
    check.command("M-W" + Check.text(at & 255, at >> 8, bytes.length) + Check.text(bytes));
    for (int i = 0; i < bytes.length; i++) {
      chip.memory[(at + i) % 2048] = bytes[i];
    }
  }

  /** A byte that is often at an edge. */
  private static int any() {
    int[] edges = {0, 1, 2, 127, 128, 129, 254, 255, 9, 10, 0x99, 0x50};
    return RANDOM.nextInt(3) == 0 ? edges[RANDOM.nextInt(edges.length)] : RANDOM.nextInt(256);
  }

  /** Sets S, A, X, Y and P, then does the code, somewhere in the memory, over its end now and then. */
  private void tryCode(int code) {
    if (check == null || check.drive.left() < 60) {
      fresh();
    }
    int at = RANDOM.nextInt(8) == 0 ? 2048 - 1 - RANDOM.nextInt(20) : 0x200 + RANDOM.nextInt(0x600 - 20);
    put(at, 0xA2, any(), 0x9A, 0xA9, any(), 0x48, 0xA9, any(), 0xA2, any(), 0xA0, any(), 0x28, code, any(), RANDOM.nextBoolean() ? any() & 7 : any(), 0);
    int[] before = chip.memory.clone();
    String want = chip.run(at);
    check.command("M-E" + Check.text(at & 255, at >> 8));
    String what = String.format("code %02X at %03X", code, at);
    Check.due(what, want, check.status());
    int[] state = {chip.a, chip.x, chip.y, chip.s, chip.p, chip.pc, chip.cycles};
    for (int i = 0; i < state.length; i++) {
      Check.due(what + ", look(" + (8 + i) + ")", state[i], check.drive.look(8 + i));
    }
    int changes = 0;
    for (int i = 0; i < 2048 && changes < 8; i++) {
      if (before[i] != chip.memory[i]) {
        changes++;
        Check.due(what + ", memory(" + i + ")", chip.memory[i], check.drive.memory(i));
      }
    }
    int other = RANDOM.nextInt(2048);
    Check.due(what + ", memory(" + other + ")", chip.memory[other], check.drive.memory(other));
    if (changes >= 8) {
      check = null; // not all was looked at: a new object
    }
  }

  /** Decimal sums and differences of all sorts of digits, also of those above 9. */
  private void decimals() {
    int[] digits = {0, 1, 4, 5, 8, 9, 10, 15};
    check = null;
    for (int i = 0; i < 2 * 2 * 4096; i++) {
      if (check == null || check.drive.left() < 12) {
        check = new Check();
        chip = new Chip();
      }
      int a = 16 * digits[i >> 2 & 7] + digits[i >> 5 & 7];
      int m = 16 * digits[i >> 8 & 7] + digits[i >> 11 & 7];
      put(0x300, 0xF8, (i & 1) == 0 ? 0x18 : 0x38, 0xA9, a, (i & 2) == 0 ? 0x69 : 0xE9, m, 0);
      chip.run(0x300);
      check.command("M-E" + Check.text(0, 3));
      String what = a + ((i & 2) == 0 ? " + " : " - ") + m + ", C " + (i & 1);
      Check.due(what, chip.a, check.drive.look(8));
      Check.due(what + ", P", chip.p, check.drive.look(12));
      Check.due(what + ", cycles", 15, check.drive.look(14));
    }
  }
}
