import java.util.Random;

/**
 * Random calls, many of them on disks whose map, directory and rings hold anything: no call throws or fails to
 * end, the same calls give the same answers, and answers stay in their bounds.
 */
public final class RobustTest {
  private static final int CALLS_OF_A_STEP = 60;
  private static final String[] NAMES = {"A", "B", "AB", "ABC", "LONGNAME10", "A*", "?", "*", "", "ELEVENBYTES", "A\u00A0B"};
  private static final int[] EDGES = {0, 1, -1, 2, 15, 16, 31, 40, 41, 300, 301, 399, 400, 401, 2047, 2048, 5119, 5120, 7999, 8000,
    Integer.MAX_VALUE, Integer.MIN_VALUE};

  public static void main(String[] args) {
    int runs = args.length > 0 ? Integer.parseInt(args[0]) : 1500;
    for (int run = 0; run < runs; run++) {
      long one = play(run);
      if (run % 10 == 0) {
        Check.due("the same calls, run " + run, one, play(run));
      }
    }
    Check.end();
  }

  private static long play(int seed) {
    Random random = new Random(seed);
    Check check = new Check();
    Drive drive = check.drive;
    long sum = 0;
    if (random.nextInt(10) > 0) {
      sum = check.command("N:DISK,AB");
    }
    while (drive.left() > 2 * CALLS_OF_A_STEP) {
      sum = 31 * sum + step(check, random);
      int open = drive.look(7);
      int tape = drive.look(4);
      int track = drive.look(1);
      int sector = drive.look(2);
      Check.due("bounds in run " + seed, true, open >= 0 && open <= 3 && tape >= 0 && tape <= 400 && drive.look(0) >= 0
          && track >= 0 && track <= 255 && sector >= 0 && sector <= 255);
      sum = 31 * sum + drive.look(random.nextInt(17) - 1);
    }
    for (int i = 0; i < CALLS_OF_A_STEP; i++) {
      sum = 31 * sum + drive.bits(1 + random.nextInt(12), random.nextInt(5120));
    }
    return sum;
  }

  private static long step(Check check, Random random) {
    Drive drive = check.drive;
    int c = random.nextInt(4) == 0 ? random.nextInt(18) - 1 : random.nextInt(4);
    switch (random.nextInt(16)) {
      case 0:
      case 1:
        return check.open(c, fileText(random));
      case 2:
        return check.write(c, Check.many(random.nextInt(400)));
      case 3:
        return drive.close(c);
      case 4:
      case 5:
        return reads(drive, c, 1 + random.nextInt(300));
      case 6:
      case 7:
      case 8:
        return check.command(commandText(random));
      case 9:
        return damageBlock(check, random);
      case 10:
        return drive.turn(random.nextInt(14), random.nextInt(8100) - 50, 1 << random.nextInt(32)) ? 1 : 0;
      case 11:
        return drive.turn(1 + random.nextInt(12), random.nextInt(5120), random.nextInt()) ? 1 : 0;
      case 12:
        drive.protect(random.nextInt(4) == 0);
        return 0;
      case 13:
        if (random.nextInt(8) == 0) {
          drive.power();
        }
        return edges(drive, random);
      case 14:
        return check.open(14, random.nextBoolean() ? "$" : "$:" + NAMES[random.nextInt(NAMES.length)]) + reads(drive, 14, 300);
      default:
        return reads(drive, 15, 1 + random.nextInt(40));
    }
  }

  /** A read, of which some bytes are looked at. */
  private static long reads(Drive drive, int c, int n) {
    int count = drive.read(c, n);
    long sum = count;
    for (int i = 0; i < count; i += 1 + count / 10) {
      int one = drive.out(i);
      Check.due("a byte of OUT", true, one >= 0 && one <= 255);
      sum = 7 * sum + one;
    }
    return sum;
  }

  private static long edges(Drive drive, Random random) {
    int a = EDGES[random.nextInt(EDGES.length)];
    int b = EDGES[random.nextInt(EDGES.length)];
    switch (random.nextInt(9)) {
      case 0: return drive.open(a, b);
      case 1: return drive.write(a, b);
      case 2: return drive.close(a);
      case 3: return drive.read(a, b);
      case 4: return drive.out(a);
      case 5: return drive.look(a);
      case 6: return drive.bits(a, b);
      case 7: return drive.memory(a);
      default: return drive.turn(a, b, random.nextInt()) ? 1 : 0;
    }
  }

  private static String name(Random random) {
    return NAMES[random.nextInt(NAMES.length)];
  }

  private static String fileText(Random random) {
    String[] parts = {"", "@", ":", "@:", "$", "#", "$:"};
    String[] ends = {"", ",W", ",S,W", ",P,W", ",R", ",U", ",X", ",S,R"};
    int way = random.nextInt(12);
    return parts[way < parts.length ? way : 0] + name(random) + ends[random.nextInt(ends.length)];
  }

  private static String bytes(Random random, int count) {
    StringBuilder text = new StringBuilder();
    for (int i = 0; i < count; i++) {
      text.append((char) random.nextInt(256));
    }
    return text.toString();
  }

  private static String commandText(Random random) {
    String numbers = ":" + random.nextInt(5) + "," + random.nextInt(14) + "," + random.nextInt(9);
    String block = ":" + random.nextInt(14) + "," + random.nextInt(9);
    switch (random.nextInt(18)) {
      case 0: return "N:" + name(random);
      case 1: return random.nextInt(4) > 0 ? "I" : "N:" + name(random) + "," + bytes(random, 2);
      case 2:
      case 3: return "S:" + name(random);
      case 4: return "R:" + name(random) + "=" + name(random);
      case 5: return "I";
      case 6:
      case 7: return "V";
      case 8: return random.nextInt(4) > 0 ? "V" : "UI";
      case 9:
      case 10: return "U1" + numbers;
      case 11: return "U2" + numbers;
      case 12: return "B-P" + numbers;
      case 13: return "B-A" + block;
      case 14: return "B-F" + block;
      case 15: return "M-W" + bytes(random, random.nextInt(37));
      case 16: return "M-R" + bytes(random, random.nextInt(4));
      default: return random.nextBoolean() ? "M-E" + bytes(random, 2) : bytes(random, random.nextInt(41));
    }
  }

  /** Writes a block of any bytes, or the first two, or puts any byte into it by its bits. */
  private static long damageBlock(Check check, Random random) {
    int[][] blocks = {{7, 0}, {7, 1}, {7, 2}, {6, 0}, {6, 3}, {6, 1}, {8, 0}, {5, 0}};
    int[] at = blocks[random.nextInt(blocks.length)];
    int how = random.nextInt(4);
    if (how == 0) {
      check.setBlock(at[0], at[1], bytes(random, 64));
    } else if (how == 1) {
      check.setBlock(at[0], at[1], Check.text(5 + random.nextInt(4), random.nextInt(7)));
    } else {
      int place = random.nextInt(64);
      int value = random.nextBoolean() ? random.nextInt(256) : random.nextInt(9);
      check.poke(at[0], at[1], place, value);
    }
    return check.drive.look(0);
  }
}
