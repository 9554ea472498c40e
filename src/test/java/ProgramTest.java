import java.util.Random;

/** M-E and the 6502 (promises 3, 4, 8 and 13). */
public final class ProgramTest {
  private static final String CODES = "00 01 05 06 08 09 0A 0D 0E 10 11 15 16 18 19 1D 1E 20 21 24 25 26 28 29 2A 2C 2D 2E 30 31 35 36 38 39 3D 3E "
      + "40 41 45 46 48 49 4A 4C 4D 4E 50 51 55 56 58 59 5D 5E 60 61 65 66 68 69 6A 6C 6D 6E 70 71 75 76 78 79 7D 7E "
      + "81 84 85 86 88 8A 8C 8D 8E 90 91 94 95 96 98 99 9A 9D A0 A1 A2 A4 A5 A6 A8 A9 AA AC AD AE B0 B1 B4 B5 B6 B8 B9 BA BC BD BE "
      + "C0 C1 C4 C5 C6 C8 C9 CA CC CD CE D0 D1 D5 D6 D8 D9 DD DE E0 E1 E4 E5 E6 E8 E9 EA EC ED EE F0 F1 F5 F6 F8 F9 FD FE";

  private Check check = new Check();

  public static void main(String[] args) {
    new ProgramTest().all();
    Check.end();
  }

  private void all() {
    beginsAndEnds();
    codesThatThereAreNot();
    tooManyCycles();
    arithmetic();
    decimal();
    shiftsAndCompares();
    pages();
    addresses();
    stack();
    jumps();
    branches();
    goesRound();
    decimalByFormula();
    staysBetween();
  }

  /** Puts bytes (hex) at an address. */
  private void put(int at, String hex) {
    String[] bytes = hex.trim().split(" +");
    for (int i = 0; i < bytes.length; i += 30) {
      StringBuilder text = new StringBuilder("M-W");
      int n = Math.min(30, bytes.length - i);
      text.append((char) (at + i & 255)).append((char) (at + i >> 8 & 255)).append((char) n);
      for (int k = 0; k < n; k++) {
        text.append((char) Integer.parseInt(bytes[i + k], 16));
      }
      check.command(text.toString());
    }
  }

  private String go(int at) {
    check.command("M-E" + Check.text(at & 255, at >> 8));
    return check.status();
  }

  /** Runs a program that ends by BRK, from 0x200 on, and compares A, X, Y, S, P, where it ended, cycles. */
  private void runs(String hex, String want) {
    put(0x200, hex + " 00");
    Check.due(hex, "0 0 0", go(0x200));
    Check.due(hex, want, state());
  }

  private String state() {
    StringBuilder text = new StringBuilder();
    for (int what = 8; what <= 14; what++) {
      text.append(what == 8 ? "" : " ");
      text.append(what == 14 ? "" + check.drive.look(what) : Integer.toHexString(check.drive.look(what)));
    }
    return text.toString();
  }

  private void fresh() {
    check = new Check();
  }

  private void beginsAndEnds() {
    Check.due("BRK alone", "0 0 0", go(0));
    Check.due("BRK alone", "0 0 0 ff 24 0 7", state());
    Check.due("address round", "0 0 0", go(0x1234));
    Check.due("address round", "0 0 0 ff 24 234 7", state());
    check.command("M-E");
    Check.due("no address", "0 0 0 ff 24 0 7", state());
    runs("A9 80 A2 00 A0 7F EA", "80 0 7f ff 24 207 15");
    runs("A9 00", "0 0 0 ff 26 202 9");
    runs("A9 FF", "ff 0 0 ff a4 202 9");
  }

  private void codesThatThereAreNot() {
    int there = 0;
    for (int code = 0; code < 256; code++) {
      fresh();
      put(0x2FF, String.format("EA %02X 00 00", code));
      String status = go(0x2FF);
      if (CODES.contains(String.format("%02X", code))) {
        there++;
        Check.due("code " + code, "0 0 0", status.equals("28 2 0") ? "0 0 0" : status);
      } else {
        Check.due("code " + code, "28 1 0", status);
        Check.due("code " + code, "0 0 0 ff 24 300 2", state());
      }
    }
    Check.due("codes", 151, there);
  }

  private void tooManyCycles() {
    fresh();
    put(0x200, "4C 00 02");
    Check.due("JMP to itself", "28 2 0", go(0x200));
    Check.due("it", "0 0 0 ff 24 200 10002", state());
    put(0x200, "EA EA 4C 00 02");
    Check.due("a loop of seven", "28 2 0", go(0x200));
    Check.due("it", "0 0 0 ff 24 202 10000", state());
    put(0x200, "A2 00 A0 00 88 D0 FD E8 D0 FA");
    go(0x200);
    Check.due("cycles", 1, check.drive.look(14) >= 10000 && check.drive.look(14) < 10007 ? 1 : 0);
    // 9,998 cycles and then BRK, or a code of two.
    String nops = "A0 08 A2 F0 CA D0 FD 88 D0 F8";
    put(0x200, nops);
    go(0x200);
    int taken = check.drive.look(14) - 7;
    Check.due("ends by BRK", 0, check.drive.look(0));
    StringBuilder more = new StringBuilder(nops);
    int left = 9998 - taken;
    Check.due("so it can be filled", 1, left > 3 && left < 400 ? 1 : 0);
    more.append(left % 2 == 0 ? "" : " 24 00");
    for (int i = 0; i < (left - left % 2 * 3) / 2; i++) {
      more.append(" EA");
    }
    put(0x200, more + " 00");
    Check.due("BRK behind 9,998", "0 0 0", go(0x200));
    Check.due("10,005", 10005, check.drive.look(14));
    put(0x200, more + " EA 00");
    Check.due("NOP behind 9,998", "28 2 0", go(0x200));
    Check.due("10,000", 10000, check.drive.look(14));
    put(0x200, more + " 24 00 00");
    Check.due("three behind 9,998", "28 2 0", go(0x200));
    Check.due("10,001", 10001, check.drive.look(14));
    put(0x200, more + " 02");
    Check.due("no code behind 9,998", "28 1 0", go(0x200));
    Check.due("9,998", 9998, check.drive.look(14));
  }

  private void arithmetic() {
    fresh();
    runs("18 A9 7F 69 01", "80 0 0 ff e4 205 13");
    runs("38 A9 FF 69 00", "0 0 0 ff 27 205 13");
    runs("18 A9 80 69 80", "0 0 0 ff 67 205 13");
    runs("38 A9 50 E9 B0", "a0 0 0 ff e4 205 13");
    runs("18 A9 05 E9 03", "1 0 0 ff 25 205 13");
    runs("38 A9 05 E9 05", "0 0 0 ff 27 205 13");
    runs("A9 F0 29 3C", "30 0 0 ff 24 204 11");
    runs("A9 F0 09 0F", "ff 0 0 ff a4 204 11");
    runs("A9 F0 49 F0", "0 0 0 ff 26 204 11");
    runs("A9 C0 85 10 A9 01 24 10", "1 0 0 ff e6 208 17");
  }

  private void decimal() {
    fresh();
    runs("F8 18 A9 58 69 46", "4 0 0 ff ed 206 15");
    runs("F8 38 A9 58 69 46", "5 0 0 ff ed 206 15");
    runs("F8 18 A9 99 69 01", "0 0 0 ff ad 206 15");
    runs("F8 18 A9 12 69 34", "46 0 0 ff 2c 206 15");
    runs("F8 38 A9 46 E9 12", "34 0 0 ff 2d 206 15");
    runs("F8 38 A9 12 E9 21", "91 0 0 ff ac 206 15");
    runs("F8 38 A9 00 E9 01", "99 0 0 ff ac 206 15");
    runs("F8 38 A9 40 E9 40", "0 0 0 ff 2f 206 15");
    runs("F8 D8 38 A9 09 69 00", "a 0 0 ff 24 207 17");
  }

  private void shiftsAndCompares() {
    fresh();
    runs("A9 81 0A", "2 0 0 ff 25 203 11");
    runs("A9 81 4A", "40 0 0 ff 25 203 11");
    runs("38 A9 40 2A", "81 0 0 ff a4 204 13");
    runs("38 A9 01 6A", "80 0 0 ff a5 204 13");
    runs("A9 01 85 10 46 10 A5 10", "0 0 0 ff 27 208 20");
    runs("A9 FF 85 10 E6 10", "ff 0 0 ff 26 206 17");
    runs("C6 11 A6 11", "0 ff 0 ff a4 204 15");
    runs("A9 40 C9 40", "40 0 0 ff 27 204 11");
    runs("A9 40 C9 41", "40 0 0 ff a4 204 11");
    runs("A2 40 E0 3F", "0 40 0 ff 25 204 11");
    runs("A0 00 C0 FF", "0 0 0 ff 24 204 11");
    runs("CA", "0 ff 0 ff a4 201 9");
    runs("88 C8 E8 E8 8A A8", "2 2 2 ff 24 206 19");
    runs("38 78 F8 58 D8 18 B8", "0 0 0 ff 20 207 21");
  }

  private void pages() {
    fresh();
    runs("A2 01 BD FE 02", "0 1 0 ff 26 205 13");
    runs("A2 01 BD FF 02", "0 1 0 ff 26 205 14");
    runs("A2 01 9D FE 02", "0 1 0 ff 24 205 14");
    runs("A2 01 9D FF 02", "0 1 0 ff 24 205 14");
    runs("A2 01 FE FF 02", "0 1 0 ff 24 205 16");
    runs("A0 FF B9 01 03", "0 0 ff ff 26 205 14");
    runs("A0 02 BE FF FF", "0 0 2 ff 26 205 14");
    runs("A9 FF 85 20 A9 02 85 21 A0 01 B1 20 88 B1 20", "0 0 0 ff 26 20f 32");
    runs("A0 01 91 20", "0 0 1 ff 24 204 15");
  }

  private void addresses() {
    fresh();
    put(0x0005, "77");
    put(0x00FF, "34");
    put(0x0000, "12");
    runs("A2 06 B5 FF", "77 6 0 ff 24 204 13");
    runs("A0 06 B6 FF", "0 77 6 ff 24 204 13");
    // (FF) goes on at 0: address 0x1234, round 2,048 it is 0x234.
    put(0x0300, "A2 01 A1 FE A0 10 B1 FF AD 34 0A 00");
    put(0x0234, "5A");
    put(0x0244, "A5");
    Check.due("by page 0", "0 0 0", go(0x300));
    Check.due("by page 0", "5a 1 10 ff 24 30b 26", state());
    put(0x0300, "A9 42 8D 80 FF A9 43 8D FF 0F 00");
    Check.due("stores go round", "0 0 0", go(0x300));
    Check.due("stores go round", 0x42, check.drive.memory(0x780));
    Check.due("stores go round", 0x43, check.drive.memory(0x7FF));
  }

  private void stack() {
    fresh();
    runs("A9 42 48 A9 00 68", "42 0 0 ff 24 206 18");
    Check.due("stack", 0x42, check.drive.memory(0x1FF));
    runs("08 68", "34 0 0 ff 24 202 14");
    runs("A9 FF 48 28", "ff 0 0 ff ef 204 16");
    runs("A9 FF 48 28 08 68", "ff 0 0 ff ed 206 23");
    runs("A9 00 48 28", "0 0 0 ff 20 204 16");
    runs("A2 00 9A A9 17 48 BA", "17 ff 0 ff a4 207 18");
    Check.due("stack goes round", 0x17, check.drive.memory(0x100));
    runs("A2 80 9A", "0 80 0 80 a4 203 11");
    runs("A9 03 48 A9 00 48 A9 C3 48 40", "c3 0 0 ff e3 300 28");
  }

  private void jumps() {
    fresh();
    put(0x300, "E8 60");
    runs("20 00 03 C8", "0 1 1 ff 24 204 23");
    Check.due("JSR pushes", 0x02, check.drive.memory(0x1FF));
    Check.due("JSR pushes", 0x02, check.drive.memory(0x1FE));
    // 0B00 is 300 here; RTS pulls two 0s from behind the stack's end and so goes to 1.
    runs("4C 00 0B", "0 1 0 1 24 1 18");
    // JMP (03FF) takes the high byte from 0300.
    fresh();
    put(0x3FF, "10 05");
    put(0x300, "04");
    put(0x200, "6C FF 03");
    Check.due("JMP ( )", "0 0 0", go(0x200));
    Check.due("JMP ( )", "0 0 0 ff 24 410 12", state());
    put(0x200, "6C FE 03");
    put(0x3FE, "10 06");
    Check.due("JMP ( )", "0 0 0", go(0x200));
    Check.due("JMP ( )", "0 0 0 ff 24 610 12", state());
    put(0x200, "6C FF FF");
    put(0x7FF, "20");
    put(0x700, "FD");
    Check.due("JMP ( ) round", "0 0 0", go(0x200));
    Check.due("JMP ( ) round", "0 0 0 ff 24 520 12", state());
  }

  private void branches() {
    fresh();
    runs("D0 01 00", "0 0 0 ff 24 203 10");
    runs("F0 01 00", "0 0 0 ff 24 202 9");
    runs("90 00", "0 0 0 ff 24 202 10");
    runs("38 90 00 B0 00", "0 0 0 ff 25 205 14");
    runs("10 00 30 00 50 00 70 00", "0 0 0 ff 24 208 17");
    put(0x2F0, "D0 0E");
    put(0x300, "00");
    Check.due("to the next page", "0 0 0", go(0x2F0));
    Check.due("to the next page", "0 0 0 ff 24 300 11", state());
    put(0x2FE, "D0 00");
    Check.due("from the page's end", "0 0 0", go(0x2FE));
    Check.due("from the page's end", "0 0 0 ff 24 300 10", state());
    put(0x2FD, "00 D0 FD");
    Check.due("back over it", "0 0 0", go(0x2FE));
    Check.due("back over it", "0 0 0 ff 24 2fd 11", state());
  }

  private void goesRound() {
    fresh();
    put(0x7FE, "A9 05 E8 00");
    Check.due("PC goes round", "0 0 0", go(0x7FE));
    Check.due("PC goes round", "5 1 0 ff 24 1 11", state());
    fresh();
    put(0x7FF, "A9 05");
    Check.due("an operand behind it", "0 0 0", go(0x7FF));
    Check.due("an operand behind it", "5 0 0 ff 24 1 9", state());
    fresh();
    put(0x7FE, "20 00 03");
    put(0x300, "E8 60");
    Check.due("JSR there", "0 0 0", go(0x7FE));
    Check.due("JSR there", "0 1 0 ff 24 1 21", state());
    Check.due("it pushes 0", 0, check.drive.memory(0x1FF));
    Check.due("it pushes 0", 0, check.drive.memory(0x1FE));
    fresh();
    put(0x7FE, "D0 80");
    Check.due("a branch back over the end", "0 0 0", go(0x7FE));
    Check.due("a branch back over the end", "0 0 0 ff 24 780 11", state());
    fresh();
    put(0x7FC, "D0 10");
    Check.due("a branch over the end", "0 0 0", go(0x7FC));
    Check.due("a branch over the end", "0 0 0 ff 24 e 11", state());
    fresh();
    put(0x0000, "D0 FC");
    Check.due("a branch back over 0", "0 0 0", go(0));
    Check.due("a branch back over 0", "0 0 0 ff 24 7fe 11", state());
  }

  private void decimalByFormula() {
    Random random = new Random(6502);
    fresh();
    for (int i = 0; i < 3000; i++) {
      int a = random.nextInt(256);
      int m = random.nextInt(256);
      int c = random.nextInt(2);
      boolean adds = random.nextBoolean();
      put(0x200, String.format("F8 %02X A9 %02X %02X %02X 00", c == 1 ? 0x38 : 0x18, a, adds ? 0x69 : 0xE9, m));
      go(0x200);
      int binary = adds ? a + m + c : a - m - 1 + c;
      int low;
      int high;
      int p = 0x2C | ((binary & 255) == 0 ? 2 : 0);
      int result;
      if (adds) {
        low = a % 16 + m % 16 + c;
        low = low > 9 ? 16 + (low + 6) % 16 : low;
        high = a / 16 * 16 + m / 16 * 16 + low;
        p |= high & 128;
        p |= a / 128 == m / 128 && (high >> 7 & 1) != a / 128 ? 64 : 0;
        high += high > 159 ? 96 : 0;
        p |= high > 255 ? 1 : 0;
        result = high % 256;
      } else {
        p |= binary & 128;
        p |= binary >= 0 ? 1 : 0;
        int signed = (byte) a - (byte) m - 1 + c;
        p |= signed < -128 || signed > 127 ? 64 : 0;
        low = a % 16 - m % 16 - 1 + c;
        low = low < 0 ? Math.floorMod(low - 6, 16) - 16 : low;
        high = a / 16 * 16 - m / 16 * 16 + low;
        high -= high < 0 ? 96 : 0;
        result = Math.floorMod(high, 256);
      }
      String what = a + (adds ? " + " : " - ") + m + ", " + c;
      Check.due(what, result, check.drive.look(8));
      Check.due(what + " P", p, check.drive.look(12));
      Check.due(what + " cycles", 15, check.drive.look(14));
    }
  }

  private void staysBetween() {
    fresh();
    put(0x200, "A9 07 85 50 A2 08 00");
    go(0x200);
    check.open(2, "#");
    check.command("X");
    Check.due("registers stay", "7 8 0 ff 24 206 14", state());
    Check.due("memory stays", 7, check.drive.memory(0x50));
    check.command("UI");
    Check.due("behind UI, too", "7 8 0 ff 24 206 14", state());
    Check.due("behind UI, too", 7, check.drive.memory(0x50));
  }
}
