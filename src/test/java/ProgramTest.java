/** PROGRAMS, sentence by sentence (M-E of promises 3 and 4, look() of promise 8). ChipTest compares each code with a slow 6502. */
public final class ProgramTest {
  private static Check check = new Check();

  public static void main(String[] args) {
    ends();
    rounds();
    decimals();
    Check.sentence("JMP ( ) at an address whose low byte is 255 takes the high byte from that page's begin.", ProgramTest::indirect);
    Check.sentence("Bits 4 and 5 of P: 5 is 1, PHP puts both as 1, PLP and RTI leave them.", ProgramTest::bitsFourAndFive);
    Check.end();
  }

  private static void ends() {
    Check.sentence("0 0 0 if it ends by BRK, else 28, 1 (a code that there is not) or 2 (cycles), 0.", ProgramTest::statusOfEnds);
    Check.sentence("(as published for NMOS; its 151 codes; undocumented ones are none)", ProgramTest::codes);
    Check.sentence("A, X, Y 0, S 255, P 36, the cycle count 0", ProgramTest::begins);
    Check.sentence("BRK ends it ahead of doing anything (7 cycles)", ProgramTest::breaks);
    Check.sentence("it ends, too, behind the code with which 10,000 cycles or more were taken.", ProgramTest::tooManyCycles);
  }

  private static void rounds() {
    Check.sentence("whose addresses and PC go round 2,048", ProgramTest::goesRound);
    Check.sentence("(a page is left or not by the 16-bit sums ahead of that)", ProgramTest::pages);
  }

  private static void decimals() {
    Check.sentence("l = (A and 15) + (M and 15) + C, if above 9 then 16 + ((l + 6) and 15)", ProgramTest::lowDigit);
    Check.sentence("N is its bit 7, V whether A and M have the same bit 7 and u another; Z as of the binary sum", ProgramTest::decimalFlags);
    Check.sentence("if u is above 159 96 more: C whether it's above 255 then, A its lowest 8 bits.", ProgramTest::highDigit);
    Check.sentence("Decimal SBC: all flags as binary", ProgramTest::decimalSubtractionFlags);
    Check.sentence("if below 0 then ((l - 6) and 15) - 16", ProgramTest::lowDigitBelow);
    Check.sentence("u = (A and 240) - (M and 240) + l, if below 0 96 less: A its lowest 8 bits.", ProgramTest::highDigitBelow);
  }

  private static void fresh() {
    check = new Check();
  }

  /** Puts bytes (hex) at an address. */
  private static void put(int at, String hex) {
    String[] bytes = hex.trim().split(" +");
    for (int i = 0; i < bytes.length; i += 30) {
      int n = Math.min(30, bytes.length - i);
      StringBuilder text = new StringBuilder("M-W" + Check.text(at + i & 255, at + i >> 8 & 255, n));
      for (int k = 0; k < n; k++) {
        text.append((char) Integer.parseInt(bytes[i + k], 16));
      }
      check.command(text.toString());
    }
  }

  private static String go(int at) {
    check.command("M-E" + Check.text(at & 255, at >> 8));
    return check.status();
  }

  /** A, X, Y, S, P, where it ended (hex), cycles. */
  private static String state() {
    StringBuilder text = new StringBuilder();
    for (int what = 8; what <= 13; what++) {
      text.append(Integer.toHexString(check.drive.look(what))).append(" ");
    }
    return text.append(check.drive.look(14)).toString();
  }

  /** Runs a program that ends by BRK, from 0x200 on. */
  private static void runs(String hex, String want) {
    fresh();
    put(0x200, hex + " 00");
    Check.due(hex, "0 0 0", go(0x200));
    Check.due(hex, want, state());
  }

  /** Runs one that lies somewhere, with other bytes elsewhere. */
  private static void runsAt(int at, String hex, String want) {
    put(at, hex);
    Check.due(hex, "0 0 0", go(at));
    Check.due(hex, want, state());
  }

  // ---- how it begins and ends ----

  private static void statusOfEnds() {
    fresh();
    put(0x200, "EA 00");
    Check.due("BRK", "0 0 0", go(0x200));
    put(0x200, "EA 02");
    Check.due("a code that there is not", "28 1 0", go(0x200));
    put(0x200, "4C 00 02");
    Check.due("cycles", "28 2 0", go(0x200));
    put(0x200, "00");
    Check.due("BRK", "0 0 0", go(0x200));
    check.drive.write(15, check.tape("M-E" + Check.text(0, 2)));
    Check.due("by write()", "0 0 0", check.status());
  }

  private static void codes() {
    int there = 0;
    for (int code = 0; code < 256; code++) {
      fresh();
      put(0x2FF, String.format("EA %02X 00 00", code));
      String status = go(0x2FF);
      if (Chip.isThere(code)) {
        there++;
        Check.due("code " + code, true, !status.equals("28 1 0"));
      } else {
        Check.due("code " + code, "28 1 0", status);
        Check.due("code " + code + " does nothing", "0 0 0 ff 24 300 2", state());
      }
    }
    Check.due("codes", 151, there);
  }

  private static void begins() {
    fresh();
    Check.due("BRK alone", "0 0 0", go(0));
    Check.due("BRK alone", "0 0 0 ff 24 0 7", state());
    put(0x300, "A9 80 A2 81 A0 82 9A 38 F8 00");
    go(0x300);
    Check.due("one that changes all", "80 81 82 81 ad 309 19", state());
    go(0);
    Check.due("begun anew", "0 0 0 ff 24 0 7", state());
    Check.due("memory stays", 0x80, check.drive.memory(0x301));
  }

  private static void breaks() {
    runs("A9 42 38", "42 0 0 ff 25 203 11");
    Check.due("nothing is pushed", 0, check.drive.memory(0x1FF) + check.drive.memory(0x1FE) + check.drive.memory(0x1FD));
    runs("", "0 0 0 ff 24 200 7");
  }

  private static void tooManyCycles() {
    fresh();
    put(0x200, "4C 00 02");
    Check.due("JMP to itself", "28 2 0", go(0x200));
    Check.due("it", "0 0 0 ff 24 200 10002", state());
    put(0x200, "EA EA 4C 00 02");
    Check.due("a loop of seven", "28 2 0", go(0x200));
    Check.due("it", "0 0 0 ff 24 202 10000", state());
    // 9,998 or 9,999 cycles, and then another code.
    String loop = "A0 08 A2 F0 CA D0 FD 88 D0 F8";
    put(0x200, loop + " 00");
    Check.due("ends by BRK", "0 0 0", go(0x200));
    int taken = check.drive.look(14) - 7;
    for (int wanted = 9998; wanted <= 9999; wanted++) {
      int rest = wanted - taken;
      Check.due("so it can be filled", true, rest > 3 && rest < 400);
      String filled = loop + (rest % 2 == 0 ? "" : " 24 00") + " EA".repeat((rest - rest % 2 * 3) / 2);
      endsWith(filled + " 00", "0 0 0", wanted + 7);
      endsWith(filled + " EA 00", "28 2 0", wanted + 2);
      endsWith(filled + " 24 00 00", "28 2 0", wanted + 3);
      endsWith(filled + " 02", "28 1 0", wanted);
    }
  }

  /** Runs a program that ends at its last byte: there is its BRK, or no code, or it is the next one's begin. */
  private static void endsWith(String hex, String want, int cycles) {
    fresh();
    put(0x200, hex);
    Check.due("ends", want, go(0x200));
    Check.due("cycles", cycles, check.drive.look(14));
    Check.due("where", 0x200 + hex.split(" ").length - 1, check.drive.look(13));
  }

  // ---- going round ----

  private static void goesRound() {
    fresh();
    runsAt(0x7FE, "A9 05 E8 00", "5 1 0 ff 24 1 11");
    fresh();
    runsAt(0x7FF, "A9 05 00", "5 0 0 ff 24 1 9");
    fresh();
    put(0x001, "5A");
    runsAt(0x7FD, "AD 01 08 00", "5a 0 0 ff 24 0 11"); // 0801 is 1
    fresh();
    put(0x300, "E8 60");
    runsAt(0x7FE, "20 00 03 00", "0 1 0 ff 24 1 21");
    Check.due("JSR pushes 0", 0, check.drive.memory(0x1FF) + check.drive.memory(0x1FE));
    fresh();
    put(0x300, "A9 42 8D 80 FF A9 43 8D FF 0F 00");
    go(0x300);
    Check.due("stores", 0x42, check.drive.memory(0x780));
    Check.due("stores", 0x43, check.drive.memory(0x7FF));
    fresh();
    put(0x300, "00");
    runsAt(0x200, "4C 00 FB", "0 0 0 ff 24 300 10");
    fresh();
    runsAt(0x7FC, "D0 10 00", "0 0 0 ff 24 e 11");
    fresh();
    runsAt(0x000, "D0 FC", "0 0 0 ff 24 7fe 11");
    fresh();
    put(0x0FE, "34 12");
    put(0x234, "77");
    runsAt(0x300, "A2 01 A1 FD 00", "77 1 0 ff 24 304 15"); // 1234 is 234
    fresh();
    put(0x0FF, "34");
    put(0x000, "0A");
    put(0x236, "78");
    runsAt(0x300, "A0 02 B1 FF 00", "78 0 2 ff 24 304 14"); // page 0 is gone round
    fresh();
    put(0x005, "77");
    runsAt(0x300, "A2 06 B5 FF 00", "77 6 0 ff 24 304 13");
    fresh();
    runsAt(0x300, "A2 00 9A A9 17 48 BA 00", "17 ff 0 ff a4 307 18");
    Check.due("the stack stays in its page", 0x17, check.drive.memory(0x100));
  }

  private static void pages() {
    runs("A2 01 BD FE 02", "0 1 0 ff 26 205 13");
    runs("A2 01 BD FF 02", "0 1 0 ff 26 205 14");
    runs("A2 01 BD FE 07", "0 1 0 ff 26 205 13");
    runs("A2 01 BD FF 07", "0 1 0 ff 26 205 14");
    runs("A2 01 9D FE 02", "0 1 0 ff 24 205 14");
    runs("A2 01 9D FF 02", "0 1 0 ff 24 205 14");
    runs("A2 01 FE FF 02", "0 1 0 ff 24 205 16");
    runs("A0 FF B9 01 03", "0 0 ff ff 26 205 14");
    runs("A0 FF B9 00 03", "0 0 ff ff 26 205 13");
    runs("A0 02 BE FF FF", "0 0 2 ff 26 205 14");
    runs("A9 FF 85 20 A9 02 85 21 A0 01 B1 20 88 B1 20", "0 0 0 ff 26 20f 32");
    runs("A0 01 91 20", "0 0 1 ff 24 204 15");
    // Branches: from the address behind them.
    runs("D0 01 00", "0 0 0 ff 24 203 10");
    runs("F0 01 00", "0 0 0 ff 24 202 9");
    fresh();
    runsAt(0x2F0, "D0 0D", "0 0 0 ff 24 2ff 10");
    runsAt(0x2F0, "D0 0E", "0 0 0 ff 24 300 11");
    runsAt(0x2FE, "D0 00", "0 0 0 ff 24 300 10");
    runsAt(0x2FD, "00 D0 FD", "0 0 0 ff 24 2fd 7");
    Check.due("back over it", "0 0 0", go(0x2FE));
    Check.due("back over it", "0 0 0 ff 24 2fd 11", state());
    fresh();
    runsAt(0x7FE, "D0 00", "0 0 0 ff 24 0 10");
    fresh();
    runsAt(0x7FE, "D0 80", "0 0 0 ff 24 780 11");
    fresh();
    runsAt(0x7F0, "D0 0E", "0 0 0 ff 24 0 11");
  }

  // ---- decimal ----

  private static void decimal(String what, int a, int m, int carry, boolean adds, int wantA, int wantP) {
    runs(String.format("F8 %02X A9 %02X %02X %02X", carry == 1 ? 0x38 : 0x18, a, adds ? 0x69 : 0xE9, m),
        String.format("%x 0 0 ff %x 206 15", wantA, wantP));
  }

  private static void lowDigit() {
    decimal("9", 0x04, 0x05, 0, true, 0x09, 0x2C);
    decimal("10", 0x05, 0x05, 0, true, 0x10, 0x2C);
    decimal("10 by C", 0x04, 0x05, 1, true, 0x10, 0x2C);
    decimal("19", 0x09, 0x09, 1, true, 0x19, 0x2C);
    decimal("30, no digits", 0x0F, 0x0F, 0, true, 0x14, 0x2C);
    decimal("31, no digits", 0x0F, 0x0F, 1, true, 0x15, 0x2C);
  }

  private static void decimalFlags() {
    decimal("N and V", 0x40, 0x40, 0, true, 0x80, 0xEC);
    decimal("N without V", 0x80, 0x10, 0, true, 0x90, 0xAC);
    decimal("V without N", 0x80, 0x80, 0, true, 0x60, 0x6F); // the binary sum is 0: Z, though A isn't
    decimal("Z of the binary sum", 0x99, 0x01, 0, true, 0x00, 0xAD);
    decimal("Z of the binary sum", 0x00, 0x00, 0, true, 0x00, 0x2E);
    decimal("N of u", 0x79, 0x01, 0, true, 0x80, 0xEC);
  }

  private static void highDigit() {
    decimal("99", 0x98, 0x01, 0, true, 0x99, 0xAC);
    decimal("100", 0x99, 0x01, 0, true, 0x00, 0xAD);
    decimal("199", 0x99, 0x99, 1, true, 0x99, 0x6D);
    decimal("159 is u's most", 0x90, 0x0F, 0, true, 0x05, 0xAD);
    decimal("90 + 9", 0x90, 0x09, 0, true, 0x99, 0xAC);
    decimal("58 + 46 + 1", 0x58, 0x46, 1, true, 0x05, 0xED);
  }

  private static void decimalSubtractionFlags() {
    decimal("as binary", 0x46, 0x12, 1, false, 0x34, 0x2D);
    decimal("0", 0x40, 0x40, 1, false, 0x00, 0x2F);
    decimal("below 0", 0x12, 0x21, 1, false, 0x91, 0xAC);
    decimal("V", 0x80, 0x01, 1, false, 0x79, 0x6D);
    decimal("V below 0", 0x50, 0xB0, 1, false, 0x40, 0xEC);
  }

  private static void lowDigitBelow() {
    decimal("0", 0x15, 0x05, 1, false, 0x10, 0x2D);
    decimal("-1", 0x15, 0x06, 1, false, 0x09, 0x2D);
    decimal("-1 by C", 0x15, 0x05, 0, false, 0x09, 0x2D);
    decimal("-10", 0x20, 0x09, 0, false, 0x10, 0x2D);
    decimal("-16, no digit", 0x20, 0x0F, 0, false, 0x1A, 0x2D);
  }

  private static void highDigitBelow() {
    decimal("0", 0x40, 0x40, 1, false, 0x00, 0x2F);
    decimal("-1", 0x00, 0x01, 1, false, 0x99, 0xAC);
    decimal("-1 by C", 0x00, 0x00, 0, false, 0x99, 0xAC);
    decimal("-99", 0x00, 0x99, 1, false, 0x01, 0x2C);
  }

  // ---- JMP ( ) and P ----

  private static void indirect() {
    fresh();
    put(0x3FF, "10 05");
    put(0x300, "04");
    runsAt(0x200, "6C FF 03", "0 0 0 ff 24 410 12");
    fresh();
    put(0x3FE, "10 06 04");
    runsAt(0x200, "6C FE 03", "0 0 0 ff 24 610 12");
    fresh();
    put(0x400, "20 05");
    runsAt(0x200, "6C 00 04", "0 0 0 ff 24 520 12");
    fresh();
    put(0x7FF, "20");
    put(0x700, "FD");
    runsAt(0x200, "6C FF FF", "0 0 0 ff 24 520 12");
    fresh();
    put(0x0FF, "30 07");
    put(0x000, "06");
    runsAt(0x200, "6C FF 08", "0 0 0 ff 24 630 12");
  }

  private static void bitsFourAndFive() {
    runs("08 68", "34 0 0 ff 24 202 14");
    runs("A9 FF 48 28", "ff 0 0 ff ef 204 16");
    runs("A9 00 48 28", "0 0 0 ff 20 204 16");
    runs("A9 FF 48 28 08 68", "ff 0 0 ff ed 206 23");
    runs("A9 00 48 28 08 68", "30 0 0 ff 20 206 23");
    runs("A9 02 48 A9 0A 48 A9 FF 48 40 00", "ff 0 0 ff ef 20a 28");
    runs("A9 02 48 A9 0A 48 A9 00 48 40 00", "0 0 0 ff 20 20a 28");
  }
}
