import java.util.HashMap;
import java.util.Map;

/**
 * A slow 6502 to compare with, made from its published codes: which ones there are by name and way, cycles by
 * the rules for reading, storing, changing and jumping rather than by a table.
 */
final class Chip {
  /** A name, then codes with the letter of their way: # next byte, z x y page 0, a X Y two bytes, ( ) by page 0, A, r, j, i. */
  private static final String[] CODES = {
    "ADC 69# 65z 75x 6Da 7DX 79Y 61( 71)", "AND 29# 25z 35x 2Da 3DX 39Y 21( 31)", "CMP C9# C5z D5x CDa DDX D9Y C1( D1)",
    "EOR 49# 45z 55x 4Da 5DX 59Y 41( 51)", "LDA A9# A5z B5x ADa BDX B9Y A1( B1)", "ORA 09# 05z 15x 0Da 1DX 19Y 01( 11)",
    "SBC E9# E5z F5x EDa FDX F9Y E1( F1)", "LDX A2# A6z B6y AEa BEY", "LDY A0# A4z B4x ACa BCX", "CPX E0# E4z ECa", "CPY C0# C4z CCa",
    "BIT 24z 2Ca", "STA 85z 95x 8Da 9DX 99Y 81( 91)", "STX 86z 96y 8Ea", "STY 84z 94x 8Ca",
    "ASL 0AA 06z 16x 0Ea 1EX", "LSR 4AA 46z 56x 4Ea 5EX", "ROL 2AA 26z 36x 2Ea 3EX", "ROR 6AA 66z 76x 6Ea 7EX",
    "INC E6z F6x EEa FEX", "DEC C6z D6x CEa DEX",
    "BPL 10r", "BMI 30r", "BVC 50r", "BVS 70r", "BCC 90r", "BCS B0r", "BNE D0r", "BEQ F0r",
    "JMP 4Ca 6Cj", "JSR 20a", "RTS 60i", "RTI 40i", "BRK 00i", "NOP EAi",
    "CLC 18i", "SEC 38i", "CLI 58i", "SEI 78i", "CLV B8i", "CLD D8i", "SED F8i",
    "TAX AAi", "TAY A8i", "TXA 8Ai", "TYA 98i", "TSX BAi", "TXS 9Ai", "INX E8i", "INY C8i", "DEX CAi", "DEY 88i",
    "PHA 48i", "PHP 08i", "PLA 68i", "PLP 28i"};

  private static final Map<Integer, String> NAMES = new HashMap<>();

  static {
    for (String row : CODES) {
      String[] parts = row.split(" ");
      for (int i = 1; i < parts.length; i++) {
        NAMES.put(Integer.parseInt(parts[i].substring(0, 2), 16), parts[0] + parts[i].charAt(2));
      }
    }
  }

  final int[] memory = new int[2048];
  int a;
  int x;
  int y;
  int s;
  int p;
  int pc;
  int cycles;
  private boolean left;

  static boolean isThere(int code) {
    return NAMES.containsKey(code);
  }

  static int count() {
    return NAMES.size();
  }

  /** What the STATUS becomes. */
  String run(int from) {
    a = 0;
    x = 0;
    y = 0;
    s = 255;
    p = 36;
    pc = from % 2048;
    cycles = 0;
    while (cycles < 10000) {
      String name = NAMES.get(memory[pc]);
      if (name == null) {
        return "28 1 0";
      }
      if (name.startsWith("BRK")) {
        cycles += 7;
        return "0 0 0";
      }
      pc = (pc + 1) % 2048;
      step(name.substring(0, 3), name.charAt(3));
    }
    return "28 2 0";
  }

  private int next() {
    int value = memory[pc];
    pc = (pc + 1) % 2048;
    return value;
  }

  private int two() {
    int low = next();
    return low + 256 * next();
  }

  private int at(int address) {
    return memory[address % 2048];
  }

  private int crossing(int base, int by) {
    left = base / 256 != (base + by) / 256;
    return base + by;
  }

  private int address(char way) {
    left = false;
    switch (way) {
      case '#': pc = (pc + 1) % 2048; return (pc + 2047) % 2048;
      case 'z': return next();
      case 'x': return (next() + x) % 256;
      case 'y': return (next() + y) % 256;
      case 'a': return two();
      case 'X': return crossing(two(), x);
      case 'Y': return crossing(two(), y);
      case '(': int zero = (next() + x) % 256; return memory[zero] + 256 * memory[(zero + 1) % 256];
      case ')': int other = next(); return crossing(memory[other] + 256 * memory[(other + 1) % 256], y);
      default: return 0;
    }
  }

  private void step(String name, char way) {
    if (way == 'r') {
      branch(name);
    } else if ("ADC AND CMP EOR LDA ORA SBC LDX LDY CPX CPY BIT".contains(name)) {
      int value = at(address(way));
      cycles += way == '#' ? 2 : way == 'z' ? 3 : "xya".indexOf(way) >= 0 ? 4 : way == '(' ? 6 : (way == ')' ? 5 : 4) + (left ? 1 : 0);
      use(name, value);
    } else if (name.startsWith("ST")) {
      int address = address(way);
      cycles += way == 'z' ? 3 : "xya".indexOf(way) >= 0 ? 4 : "XY".indexOf(way) >= 0 ? 5 : 6;
      memory[address % 2048] = name.equals("STA") ? a : name.equals("STX") ? x : y;
    } else if ("ASL LSR ROL ROR INC DEC".contains(name)) {
      int address = address(way);
      cycles += way == 'A' ? 2 : way == 'z' ? 5 : way == 'X' ? 7 : 6;
      int value = change(name, way == 'A' ? a : at(address));
      if (way == 'A') {
        a = value;
      } else {
        memory[address % 2048] = value;
      }
    } else if ("JMP JSR RTS RTI".contains(name)) {
      jump(name, way);
    } else if (name.startsWith("PH") || name.startsWith("PL")) {
      stack(name);
    } else {
      cycles += 2;
      plain(name);
    }
  }

  private void branch(String name) {
    int by = (byte) next();
    int bit = name.equals("BPL") || name.equals("BMI") ? 128 : name.startsWith("BV") ? 64 : name.startsWith("BC") ? 1 : 2;
    boolean wanted = name.equals("BMI") || name.equals("BVS") || name.equals("BCS") || name.equals("BEQ");
    cycles += 2;
    if ((p & bit) != 0 == wanted) {
      int to = pc + by;
      cycles += Math.floorDiv(to, 256) == pc / 256 ? 1 : 2;
      pc = Math.floorMod(to, 2048);
    }
  }

  private int nz(int value) {
    p = p & 125 | value & 128 | ((value & 255) == 0 ? 2 : 0);
    return value & 255;
  }

  private void carry(boolean is) {
    p = is ? p | 1 : p & 254;
  }

  private void use(String name, int value) {
    switch (name) {
      case "LDA": a = nz(value); break;
      case "LDX": x = nz(value); break;
      case "LDY": y = nz(value); break;
      case "AND": a = nz(a & value); break;
      case "ORA": a = nz(a | value); break;
      case "EOR": a = nz(a ^ value); break;
      case "CMP": nz(a - value); carry(a >= value); break;
      case "CPX": nz(x - value); carry(x >= value); break;
      case "CPY": nz(y - value); carry(y >= value); break;
      case "BIT": p = p & 61 | value & 192 | ((a & value) == 0 ? 2 : 0); break;
      case "ADC": add(value); break;
      default: subtract(value); break;
    }
  }

  private void binary(int result, int signed, boolean carries) {
    p = p & 60 | result & 128 | (signed < -128 || signed > 127 ? 64 : 0) | ((result & 255) == 0 ? 2 : 0) | (carries ? 1 : 0);
  }

  private void add(int m) {
    int c = p & 1;
    int sum = a + m + c;
    if ((p & 8) == 0) {
      binary(sum, (byte) a + (byte) m + c, sum > 255);
      a = sum & 255;
      return;
    }
    int l = a % 16 + m % 16 + c;
    l = l > 9 ? 16 + (l + 6) % 16 : l;
    int u = a / 16 * 16 + m / 16 * 16 + l;
    p = p & 60 | u & 128 | (a / 128 == m / 128 && (u & 128) != (a & 128) ? 64 : 0) | (sum % 256 == 0 ? 2 : 0);
    u += u > 159 ? 96 : 0;
    carry(u > 255);
    a = u % 256;
  }

  private void subtract(int m) {
    int c = p & 1;
    int rest = a - m - 1 + c;
    binary(rest, (byte) a - (byte) m - 1 + c, rest >= 0);
    if ((p & 8) == 0) {
      a = rest & 255;
      return;
    }
    int l = a % 16 - m % 16 - 1 + c;
    l = l < 0 ? Math.floorMod(l - 6, 16) - 16 : l;
    int u = a / 16 * 16 - m / 16 * 16 + l;
    u -= u < 0 ? 96 : 0;
    a = Math.floorMod(u, 256);
  }

  private int change(String name, int value) {
    int c = p & 1;
    switch (name) {
      case "ASL": carry(value > 127); return nz(2 * value);
      case "ROL": carry(value > 127); return nz(2 * value + c);
      case "LSR": carry(value % 2 == 1); return nz(value / 2);
      case "ROR": carry(value % 2 == 1); return nz(value / 2 + 128 * c);
      case "INC": return nz(value + 1);
      default: return nz(value + 255);
    }
  }

  private void push(int value) {
    memory[256 + s] = value;
    s = (s + 255) % 256;
  }

  private int pull() {
    s = (s + 1) % 256;
    return memory[256 + s];
  }

  private void jump(String name, char way) {
    cycles += name.equals("JMP") ? way == 'a' ? 3 : 5 : 6;
    switch (name) {
      case "JMP":
        int to = two();
        pc = (way == 'a' ? to : at(to) + 256 * at(to % 256 == 255 ? to - 255 : to + 1)) % 2048;
        break;
      case "JSR":
        int target = two();
        int back = (pc + 2047) % 2048;
        push(back / 256);
        push(back % 256);
        pc = target % 2048;
        break;
      case "RTS":
        int low = pull();
        pc = (low + 256 * pull() + 1) % 2048;
        break;
      default:
        p = pull() & 207 | p & 48;
        int lower = pull();
        pc = (lower + 256 * pull()) % 2048;
        break;
    }
  }

  private void stack(String name) {
    cycles += name.startsWith("PH") ? 3 : 4;
    switch (name) {
      case "PHA": push(a); break;
      case "PHP": push(p | 48); break;
      case "PLA": a = nz(pull()); break;
      default: p = pull() & 207 | p & 48; break;
    }
  }

  private void plain(String name) {
    switch (name) {
      case "CLC": p &= 254; break;
      case "SEC": p |= 1; break;
      case "CLI": p &= 251; break;
      case "SEI": p |= 4; break;
      case "CLV": p &= 191; break;
      case "CLD": p &= 247; break;
      case "SED": p |= 8; break;
      case "TAX": x = nz(a); break;
      case "TAY": y = nz(a); break;
      case "TXA": a = nz(x); break;
      case "TYA": a = nz(y); break;
      case "TSX": x = nz(s); break;
      case "TXS": s = x; break;
      case "INX": x = nz(x + 1); break;
      case "INY": y = nz(y + 1); break;
      case "DEX": x = nz(x + 255); break;
      case "DEY": y = nz(y + 255); break;
      default: break; // NOP
    }
  }
}
