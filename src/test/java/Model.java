import java.util.ArrayList;
import java.util.List;

/**
 * The whole drive once more, slow and word by word from the document, to compare with: rings are rows of single
 * bits, a JOB keeps every byte that came, a fault is thrown.
 */
final class Model {
  /** What ends what is done. */
  private static final class Fault extends RuntimeException {
    final int number;
    final int track;
    final int sector;

    Fault(int number, int track, int sector) {
      super(null, null, false, false);
      this.number = number;
      this.track = track;
      this.sector = sector;
    }
  }

  private record Place(int track, int sector) {
    boolean isLegal() {
      return track >= 1 && track <= 12 && sector < Bits.sectorsOf(track);
    }

    Fault fault(int number) {
      return new Fault(number, track, sector);
    }
  }

  /** An ENTRY: its block, which one of it, and its sixteen bytes when it was looked at. */
  private record Entry(Place block, int k, int[] row) {
    int type() {
      return row[2];
    }

    boolean isClosed() {
      return row[2] >= 128;
    }

    Place first() {
      return new Place(row[3], row[4]);
    }

    String name() {
      return Check.text(row).substring(5, 15);
    }
  }

  private static final class Channel {
    /** ' ' closed, R, W, L, B. */
    char kind = ' ';
    int[] bytes = new int[64];
    int place;
    Place block;
    Place first;
    Entry entry;
    int count;
    /** Of a LIST: its PATTERN, the line in hand, and how far it is: 0 nothing, 1 the head, 2 the last line. */
    String pattern;
    String line;
    int step;
    Place at;
    int k;
    int ordinal;
  }

  private static final int[] ORDER = {6, 8, 5, 9, 4, 10, 3, 11, 2, 12, 1};

  private final int[][] rings = new int[13][];
  private boolean isProtected;
  private final List<Integer> tape = new ArrayList<>();
  private int[] id;
  private Channel[] channels;
  private Chip chip;
  private int number;
  private int track;
  private int sector;
  private String statusLeft;
  private String reply;
  private String out;
  private boolean ended;

  Model() {
    for (int t = 1; t <= 12; t++) {
      rings[t] = new int[8 * Bits.lengthOf(t)];
    }
    power();
  }

  // ---- the face ----

  int feed(int... words) {
    if (tape.size() + 20 > 400) {
      return -1;
    }
    for (int word : words) {
      for (int i = 3; i >= 0; i--) {
        tape.add(word >>> 8 * i & 255);
      }
    }
    return tape.size();
  }

  private String send(int c, int n) {
    if (c < 0 || c > 15 || n < 0 || n > tape.size()) {
      return null;
    }
    StringBuilder text = new StringBuilder();
    for (int i = 0; i < n; i++) {
      text.append((char) (int) tape.get(i));
    }
    tape.clear();
    return text.toString();
  }

  int open(int c, int n) {
    String text = send(c, n);
    if (text == null) {
      return -1;
    }
    if (c == 15) {
      sendCommand(text);
    } else {
      act(() -> openChannel(c, text));
    }
    return number;
  }

  int write(int c, int n) {
    String text = send(c, n);
    if (text == null) {
      return -1;
    }
    if (c == 15) {
      sendCommand(text);
    } else if (n > 0) {
      act(() -> writeBytes(channels[c], text));
    }
    return number;
  }

  int close(int c) {
    if (c < 0 || c > 15) {
      return -1;
    }
    act(() -> {
      if (c < 15) {
        closeChannel(channels[c]);
        return;
      }
      try {
        for (Channel channel : channels) {
          closeChannel(channel);
        }
      } finally {
        shutAll();
      }
    });
    return number;
  }

  int read(int c, int n) {
    if (c < 0 || c > 15 || n < 1 || n > 300) {
      return -1;
    }
    out = "";
    ended = false;
    if (c == 15) {
      while (out.length() < n && !ended) {
        readStatusByte();
      }
    } else {
      act(() -> readBytes(channels[c], n));
    }
    return out.length();
  }

  int out(int i) {
    return i >= 0 && i < out.length() ? out.charAt(i) : -1;
  }

  int look(int what) {
    switch (what) {
      case 0: return number;
      case 1: return track;
      case 2: return sector;
      case 3: return ended ? 1 : 0;
      case 4: return tape.size();
      case 5: return id == null ? -1 : id[0];
      case 6: return id == null ? -1 : id[1];
      case 7: return countOpen();
      case 8: return chip.a;
      case 9: return chip.x;
      case 10: return chip.y;
      case 11: return chip.s;
      case 12: return chip.p;
      case 13: return chip.pc;
      case 14: return chip.cycles;
      default: return -1;
    }
  }

  int bits(int t, int at) {
    if (t < 1 || t > 12 || at < 0 || at >= rings[t].length) {
      return 0;
    }
    int word = 0;
    for (int i = 0; i < 32; i++) {
      word = word << 1 | rings[t][(at + i) % rings[t].length];
    }
    return word;
  }

  boolean turn(int t, int at, int mask) {
    if (t < 1 || t > 12 || at < 0 || at >= rings[t].length) {
      return false;
    }
    for (int i = 0; i < 32; i++) {
      rings[t][(at + i) % rings[t].length] ^= mask >>> 31 - i & 1;
    }
    return true;
  }

  void protect(boolean is) {
    isProtected = is;
  }

  void power() {
    id = null;
    channels = new Channel[15];
    shutAll();
    chip = new Chip();
    reply = "";
    out = "";
    ended = false;
    setStatus(73, 0, 0);
  }

  int memory(int at) {
    return at >= 0 && at < 2048 ? chip.memory[at] : -1;
  }

  /** A block's bytes where FORMAT has put them, or null: for tests that tamper with them. */
  int[] blockAsFormatted(int t, int s) {
    StringBuilder text = new StringBuilder();
    for (int i = 0; i < 680; i++) {
      text.append(rings[t][Bits.dataAt(s) + i]);
    }
    return Bits.decoded(text.toString());
  }

  // ---- the STATUS ----

  private void setStatus(int n, int t, int s) {
    number = n;
    track = t;
    sector = s;
    statusLeft = null;
  }

  private void act(Runnable what) {
    setStatus(0, 0, 0);
    reply = "";
    try {
      what.run();
    } catch (Fault fault) {
      setStatus(fault.number, fault.track, fault.sector);
    }
  }

  private void readStatusByte() {
    if (!reply.isEmpty()) {
      out += reply.charAt(0);
      reply = reply.substring(1);
      ended = reply.isEmpty();
      return;
    }
    if (statusLeft == null) {
      statusLeft = twoDigits(number) + "," + words() + "," + twoDigits(track) + "," + twoDigits(sector) + "\r";
    }
    out += statusLeft.charAt(0);
    statusLeft = statusLeft.substring(1);
    if (statusLeft.isEmpty()) {
      ended = true;
      setStatus(0, 0, 0);
    }
  }

  private static String twoDigits(int value) {
    String digits = "0" + value;
    return digits.substring(digits.length() - 2);
  }

  private String words() {
    String all = "0 OK; 1 FILES SCRATCHED; 20 READ ERROR; 21 READ ERROR; 22 READ ERROR; 23 READ ERROR; 24 READ ERROR; "
        + "25 WRITE ERROR; 26 WRITE PROTECT ON; 28 PROGRAM ERROR; 30 SYNTAX ERROR; 31 SYNTAX ERROR; 32 SYNTAX ERROR; "
        + "33 SYNTAX ERROR; 34 SYNTAX ERROR; 60 FILE OPEN; 61 FILE NOT OPEN; 62 FILE NOT FOUND; 63 FILE EXISTS; "
        + "64 FILE TYPE MISMATCH; 65 NO BLOCK; 66 ILLEGAL BLOCK; 70 NO CHANNEL; 71 DIR ERROR; 72 DISK FULL; 73 RING DOS 1; "
        + "74 DRIVE NOT READY";
    for (String one : all.split("; ")) {
      if (one.startsWith(number + " ")) {
        return one.substring(one.indexOf(' ') + 1);
      }
    }
    throw new IllegalStateException("no words for " + number);
  }

  // ---- JOBS ----

  /** A byte that came: its bits, whether it is FIRST, where its highest bit lies and where the bit behind it. */
  private record Came(int value, boolean first, int start, int behind) {}

  /** One who goes along a ring from bit 0 on, and keeps each byte that came. */
  private static final class Walk {
    final int[] ring;
    private final List<Came> all = new ArrayList<>();
    private int at;
    private int ones;
    private boolean inBytes;
    private int value;
    private int many;
    private boolean first;
    private int start;

    Walk(int[] ring) {
      this.ring = ring;
      while (ones < ring.length && ring[ring.length - 1 - ones] == 1) {
        ones++;
      }
    }

    /** The byte that came as number i; null if none comes at all. */
    Came get(int i) {
      while (all.size() <= i && !(all.isEmpty() && at > 2 * ring.length)) {
        step();
      }
      return i < all.size() ? all.get(i) : null;
    }

    private void step() {
      int bit = ring[at % ring.length];
      boolean behindMark = ones >= 10;
      ones = bit == 1 ? ones + 1 : 0;
      if (bit == 0 && behindMark) {
        inBytes = true;
        many = 0;
        first = true;
      }
      if (ones >= 10) {
        inBytes = false;
      }
      if (inBytes) {
        start = many == 0 ? at : start;
        value = (many == 0 ? 0 : 2 * value) + bit;
        many++;
        if (many == 8) {
          all.add(new Came(value, first, start, at + 1));
          many = 0;
          first = false;
        }
      }
      at++;
    }

    String text(int from, int count) {
      StringBuilder text = new StringBuilder();
      for (int i = from; i < from + count; i++) {
        text.append(Integer.toBinaryString(256 + get(i).value).substring(1));
      }
      return text.toString();
    }

    boolean isInRound(Came one) {
      return one != null && one.start < ring.length;
    }
  }

  /** Which of the bytes that come begins the HEADER. */
  private int seek(Walk walk, Place block) {
    String header = Bits.header(block.track, block.sector, id[0], id[1]);
    boolean any = false;
    for (int i = 0; walk.isInRound(walk.get(i)); i++) {
      if (walk.get(i).first) {
        any = true;
        boolean isHeader = walk.text(i, 10).equals(header);
        for (int k = 1; k < 10; k++) {
          isHeader &= !walk.get(i + k).first;
        }
        if (isHeader) {
          return i;
        }
      }
    }
    throw block.fault(any ? 20 : 21);
  }

  private static String dataBehind(Walk walk, int header) {
    int i = header + 10;
    while (!walk.get(i).first) {
      i++;
    }
    return walk.text(i, 85);
  }

  private void takeIfNone() {
    if (id == null) {
      takeId();
    }
  }

  private void takeId() {
    id = null;
    Walk walk = new Walk(rings[7]);
    int firsts = 0;
    for (int i = 0; walk.isInRound(walk.get(i)) && firsts < 32; i++) {
      if (!walk.get(i).first) {
        continue;
      }
      firsts++;
      int[] eight = Bits.decoded(walk.text(i, 10));
      if (eight != null && eight[0] == 8 && eight[1] == (eight[2] ^ eight[3] ^ eight[4] ^ eight[5])) {
        id = new int[] {eight[5], eight[4]};
        return;
      }
    }
    throw new Fault(74, 7, 0);
  }

  private int[] readBlock(Place block) {
    takeIfNone();
    Walk walk = new Walk(rings[block.track]);
    String bits = dataBehind(walk, seek(walk, block));
    if (!bits.startsWith(Bits.coded(7))) {
      throw block.fault(22);
    }
    int[] plain = Bits.decoded(bits);
    if (plain == null) {
      throw block.fault(24);
    }
    int[] bytes = new int[64];
    int sum = 0;
    for (int i = 0; i < 64; i++) {
      bytes[i] = plain[1 + i];
      sum ^= bytes[i];
    }
    if (sum != plain[65]) {
      throw block.fault(23);
    }
    return bytes;
  }

  private void writeBlock(Place block, int[] bytes) {
    if (isProtected) {
      throw block.fault(26);
    }
    takeIfNone();
    int[] ring = rings[block.track];
    Walk walk = new Walk(ring);
    int behind = walk.get(seek(walk, block) + 18).behind;
    String data = Bits.data(bytes);
    put(ring, behind, Bits.ones(40) + data);
    boolean good;
    try {
      Walk again = new Walk(ring);
      good = dataBehind(again, seek(again, block)).equals(data);
    } catch (Fault fault) {
      good = false;
    }
    if (!good) {
      throw block.fault(25);
    }
  }

  private static void put(int[] ring, int place, String bits) {
    for (int i = 0; i < bits.length(); i++) {
      ring[(place + i) % ring.length] = bits.charAt(i) - '0';
    }
  }

  // ---- the MAP ----

  private static final Place MAP = new Place(7, 0);

  private int[] loadMap() {
    return readBlock(MAP);
  }

  private void storeMap(int[] map) {
    writeBlock(MAP, map);
  }

  private static boolean bit(int[] map, int t, int s) {
    return (map[3 + 2 * t] >> s & 1) == 1;
  }

  private static void taken(int[] map, Place block) {
    map[3 + 2 * block.track] ^= 1 << block.sector;
    map[2 + 2 * block.track] = map[2 + 2 * block.track] + 255 & 255;
  }

  private static void giveBack(int[] map, Place block) {
    if (block.isLegal() && !bit(map, block.track, block.sector)) {
      map[3 + 2 * block.track] ^= 1 << block.sector;
      map[2 + 2 * block.track] = map[2 + 2 * block.track] + 1 & 255;
    }
  }

  private static Place take(int[] map, int... tracks) {
    for (int t : tracks) {
      for (int s = 0; s < Bits.sectorsOf(t) && map[2 + 2 * t] != 0; s++) {
        if (bit(map, t, s)) {
          Place block = new Place(t, s);
          taken(map, block);
          return block;
        }
      }
    }
    throw new Fault(72, 0, 0);
  }

  private static Place takeNext(int[] map, Place behind) {
    int t = behind.track;
    if (t != 7 && map[2 + 2 * t] != 0) {
      for (int i = 0; i < Bits.sectorsOf(t); i++) {
        Place block = new Place(t, (behind.sector + 3 + i) % Bits.sectorsOf(t));
        if (bit(map, t, block.sector)) {
          taken(map, block);
          return block;
        }
      }
    }
    return take(map, ORDER);
  }

  private void freeChain(Place from) {
    int[] map = loadMap();
    Fault fault = null;
    try {
      Place block = from;
      int[] bytes;
      int many = 0;
      do {
        many++;
        if (!block.isLegal() || many == 73) {
          throw block.fault(71);
        }
        giveBack(map, block);
        bytes = readBlock(block);
        block = new Place(bytes[0], bytes[1]);
      } while (bytes[0] != 0);
    } catch (Fault of) {
      fault = of;
    }
    try {
      storeMap(map);
    } catch (Fault storing) {
      fault = fault == null ? storing : fault;
    }
    if (fault != null) {
      throw fault;
    }
  }

  // ---- the DIRECTORY ----

  private interface Test {
    boolean is(Entry entry);
  }

  private static Entry entryOf(Place block, int[] bytes, int k) {
    int[] row = new int[16];
    System.arraycopy(bytes, 16 * k, row, 0, 16);
    return new Entry(block, k, row);
  }

  /** The first ENTRY that is wanted, or null. */
  private Entry find(Test wanted) {
    Place block = new Place(7, 1);
    for (int ordinal = 1; ordinal <= 6; ordinal++) {
      if (!block.isLegal()) {
        throw block.fault(71);
      }
      int[] bytes = readBlock(block);
      for (int k = 0; k < 4; k++) {
        Entry entry = entryOf(block, bytes, k);
        if (wanted.is(entry)) {
          return entry;
        }
      }
      if (bytes[0] == 0) {
        return null;
      }
      block = new Place(bytes[0], bytes[1]);
    }
    return null;
  }

  private Entry findFitting(String pattern) {
    return find(entry -> entry.type() != 0 && fits(pattern, entry.name()));
  }

  private Entry findNamed(String name) {
    return find(entry -> entry.type() != 0 && entry.name().equals(Check.padded(name)));
  }

  static boolean fits(String pattern, String name) {
    for (int i = 0; i < pattern.length(); i++) {
      char one = pattern.charAt(i);
      if (one == '*') {
        return true;
      }
      if (one == '?' ? name.charAt(i) == 160 : name.charAt(i) != one) {
        return false;
      }
    }
    return pattern.length() == 10 || name.charAt(pattern.length()) == 160;
  }

  private interface Change {
    void to(int[] row);
  }

  private void change(Entry entry, Change change) {
    int[] bytes = readBlock(entry.block);
    int[] row = entryOf(entry.block, bytes, entry.k).row;
    change.to(row);
    System.arraycopy(row, 0, bytes, 16 * entry.k, 16);
    writeBlock(entry.block, bytes);
  }

  private static void putName(int[] row, int at, String name) {
    for (int i = 0; i < 10; i++) {
      row[at + i] = Check.padded(name).charAt(i);
    }
  }

  private void scratch(Entry entry) {
    freeChain(entry.first());
    change(entry, row -> row[2] = 0);
  }

  private static int[] emptyBlock() {
    int[] bytes = new int[64];
    bytes[1] = 255;
    return bytes;
  }

  // ---- channels ----

  private void shutAll() {
    for (int c = 0; c < 15; c++) {
      channels[c] = new Channel();
    }
  }

  private int countOpen() {
    int count = 0;
    for (Channel channel : channels) {
      count += channel.kind == ' ' ? 0 : 1;
    }
    return count;
  }

  private void closeChannel(Channel channel) {
    try {
      if (channel.kind == 'W') {
        channel.bytes[0] = 0;
        channel.bytes[1] = channel.place - 1;
        writeBlock(channel.block, channel.bytes);
        change(channel.entry, row -> {
          row[2] |= 128;
          row[15] = channel.count & 255;
        });
      }
    } finally {
      channel.kind = ' ';
    }
  }

  private void openChannel(int c, String text) {
    if (text.length() > 40) {
      throw new Fault(32, 0, 0);
    }
    closeChannel(channels[c]);
    if (countOpen() == 3) {
      throw new Fault(70, 0, 0);
    }
    Channel channel = new Channel();
    if (text.startsWith("#")) {
      wanted(text.equals("#"), 30);
      channel.kind = 'B';
    } else if (text.startsWith("$")) {
      wanted(text.equals("$") || text.startsWith("$:") && text.length() <= 12, 30);
      channel.kind = 'L';
      channel.pattern = text.length() > 2 ? text.substring(2) : "*";
      channel.line = "";
    } else {
      openFile(c, text, channel);
    }
    channels[c] = channel;
  }

  private static void wanted(boolean is, int number) {
    if (!is) {
      throw new Fault(number, 0, 0);
    }
  }

  private static boolean isWild(String name) {
    return name.indexOf('*') >= 0 || name.indexOf('?') >= 0;
  }

  private void openFile(int c, String text, Channel channel) {
    boolean replaces = text.startsWith("@");
    String rest = replaces ? text.substring(1) : text;
    rest = rest.startsWith(":") ? rest.substring(1) : rest;
    String name = rest.indexOf(',') >= 0 ? rest.substring(0, rest.indexOf(',')) : rest;
    wanted(!name.isEmpty(), 34);
    wanted(name.length() <= 10, 30);
    rest = rest.substring(name.length());
    int sort = -1;
    char way = ' ';
    if (rest.length() > 1 && rest.charAt(0) == ',' && "SPU".indexOf(rest.charAt(1)) >= 0) {
      sort = 1 + "SPU".indexOf(rest.charAt(1));
      rest = rest.substring(2);
    }
    if (rest.length() > 1 && rest.charAt(0) == ',' && "RW".indexOf(rest.charAt(1)) >= 0) {
      way = rest.charAt(1);
      rest = rest.substring(2);
    }
    wanted(rest.isEmpty(), 30);
    way = way != ' ' ? way : c == 1 ? 'W' : 'R';
    if (sort < 0 && (c == 0 || c == 1)) {
      sort = 2;
    } else if (sort < 0 && way == 'W') {
      sort = 1;
    }
    wanted(!(replaces && way == 'R'), 30);
    wanted(!(way == 'W' && isWild(name)), 33);
    if (way == 'R') {
      openToRead(name, sort, channel);
    } else {
      openToWrite(name, sort, replaces, channel);
    }
  }

  private void openToRead(String name, int sort, Channel channel) {
    Entry entry = findFitting(name);
    wanted(entry != null, 62);
    wanted(entry.isClosed(), 60);
    wanted(sort < 0 || (entry.type() & 3) == sort, 64);
    if (!entry.first().isLegal()) {
      throw entry.first().fault(66);
    }
    channel.bytes = readBlock(entry.first());
    channel.place = 2;
    channel.kind = 'R';
  }

  private void openToWrite(String name, int sort, boolean replaces, Channel channel) {
    Entry old = findNamed(name);
    if (old != null) {
      wanted(replaces, 63);
      wanted(old.isClosed(), 60);
      scratch(old);
    }
    Entry free = find(entry -> entry.type() == 0);
    if (free == null) {
      free = lengthenDirectory();
    }
    int[] map = loadMap();
    Place block = take(map, ORDER);
    storeMap(map);
    change(free, row -> {
      row[2] = sort;
      row[3] = block.track;
      row[4] = block.sector;
      putName(row, 5, name);
      row[15] = 0;
    });
    channel.entry = free;
    channel.first = block;
    channel.block = block;
    channel.place = 2;
    channel.count = 1;
    channel.kind = 'W';
  }

  private Entry lengthenDirectory() {
    Place last = new Place(7, 1);
    int blocks = 1;
    int[] bytes = readBlock(last);
    while (bytes[0] != 0 && blocks < 6) {
      last = new Place(bytes[0], bytes[1]);
      bytes = readBlock(last);
      blocks++;
    }
    wanted(blocks < 6, 72);
    int[] map = loadMap();
    Place added = take(map, 7);
    storeMap(map);
    writeBlock(added, emptyBlock());
    bytes = readBlock(last);
    bytes[0] = added.track;
    bytes[1] = added.sector;
    writeBlock(last, bytes);
    return entryOf(added, emptyBlock(), 0);
  }

  private void readBytes(Channel channel, int n) {
    wanted(channel.kind != ' ' && channel.kind != 'W', 61);
    try {
      boolean more = true;
      while (out.length() < n && !ended && more) {
        more = channel.kind == 'B' ? readOfBuffer(channel) : channel.kind == 'L' ? readOfList(channel) : readOfFile(channel);
      }
    } catch (Fault fault) {
      channel.kind = ' ';
      throw fault;
    }
  }

  private boolean readOfBuffer(Channel channel) {
    out += (char) channel.bytes[channel.place];
    ended = channel.place == 63;
    channel.place = ended ? 0 : channel.place + 1;
    return true;
  }

  private boolean readOfFile(Channel channel) {
    if (channel.bytes[0] != 0 && channel.place > 63) {
      Place next = new Place(channel.bytes[0], channel.bytes[1]);
      if (!next.isLegal()) {
        throw next.fault(71);
      }
      channel.bytes = readBlock(next);
      channel.place = 2;
    }
    int last = channel.bytes[0] != 0 || channel.bytes[1] > 63 ? 63 : channel.bytes[1];
    if (channel.place > last) {
      return false;
    }
    out += (char) channel.bytes[channel.place];
    ended = channel.bytes[0] == 0 && channel.place == last;
    channel.place++;
    return true;
  }

  private boolean readOfList(Channel channel) {
    if (channel.line.isEmpty()) {
      if (channel.step == 2) {
        return false;
      }
      channel.line = nextLine(channel);
    }
    out += channel.line.charAt(0);
    channel.line = channel.line.substring(1);
    ended = channel.step == 2 && channel.line.isEmpty();
    return true;
  }

  private String nextLine(Channel channel) {
    if (channel.step == 0) {
      String map = Check.text(loadMap());
      channel.step = 1;
      channel.at = new Place(7, 1);
      channel.ordinal = 1;
      channel.k = 0;
      return "\"" + map.substring(28, 38).replace('\u00A0', ' ') + "\" " + map.substring(38, 40) + "\r";
    }
    Entry entry = nextListed(channel);
    if (entry == null) {
      int[] map = loadMap();
      int sum = 0;
      for (int t : ORDER) {
        sum += map[2 + 2 * t];
      }
      channel.step = 2;
      return sum + " FREE\r";
    }
    String name = (entry.name() + "\u00A0");
    return entry.row[15] + " \"" + name.substring(0, name.indexOf('\u00A0')) + "\" " + "?SPU".charAt(entry.type() & 3)
        + (entry.isClosed() ? "" : "*") + "\r";
  }

  /** The next ENTRY of a LIST, from where the one before it lay. */
  private Entry nextListed(Channel channel) {
    for (;;) {
      int[] bytes = readBlock(channel.at);
      while (channel.k < 4) {
        Entry entry = entryOf(channel.at, bytes, channel.k);
        channel.k++;
        if (entry.type() != 0 && fits(channel.pattern, entry.name())) {
          return entry;
        }
      }
      if (bytes[0] == 0 || channel.ordinal == 6) {
        return null;
      }
      Place next = new Place(bytes[0], bytes[1]);
      if (!next.isLegal()) {
        throw next.fault(71);
      }
      channel.at = next;
      channel.ordinal++;
      channel.k = 0;
    }
  }

  private void writeBytes(Channel channel, String text) {
    wanted(channel.kind == 'B' || channel.kind == 'W', 61);
    try {
      for (char one : text.toCharArray()) {
        if (channel.kind == 'B') {
          channel.bytes[channel.place] = one;
          channel.place = (channel.place + 1) % 64;
        } else {
          writeToFile(channel, one);
        }
      }
    } catch (Fault fault) {
      channel.kind = ' ';
      throw fault;
    }
  }

  private void writeToFile(Channel channel, int value) {
    if (channel.place == 64) {
      int[] map = loadMap();
      Place next;
      try {
        next = takeNext(map, channel.block);
      } catch (Fault full) {
        giveUp(channel, map);
        throw full;
      }
      storeMap(map);
      channel.bytes[0] = next.track;
      channel.bytes[1] = next.sector;
      writeBlock(channel.block, channel.bytes);
      channel.bytes = new int[64];
      channel.block = next;
      channel.place = 2;
      channel.count++;
    }
    channel.bytes[channel.place] = value;
    channel.place++;
  }

  private void giveUp(Channel channel, int[] map) {
    Place block = channel.first;
    int many = 0;
    while (!block.equals(channel.block)) {
      many++;
      if (!block.isLegal() || many == 73) {
        throw block.fault(71);
      }
      int[] bytes = readBlock(block);
      giveBack(map, block);
      block = new Place(bytes[0], bytes[1]);
    }
    giveBack(map, channel.block);
    storeMap(map);
    change(channel.entry, row -> row[2] = 0);
  }

  // ---- commands ----

  private void sendCommand(String text) {
    if (!text.isEmpty()) {
      act(() -> command(text));
    }
  }

  private void command(String text) {
    wanted(text.length() <= 40, 32);
    if (text.startsWith("N")) {
      makeNew(text);
    } else if (text.startsWith("S")) {
      wanted(text.startsWith("S:") && text.length() > 2 && text.length() <= 12, 30);
      scratchAll(text.substring(2));
    } else if (text.startsWith("R")) {
      rename(text);
    } else if (text.equals("I")) {
      takeId();
      loadMap();
    } else if (text.equals("UI")) {
      shutAll();
      id = null;
      setStatus(73, 0, 0);
    } else if (text.equals("V")) {
      validate();
    } else if (text.startsWith("U1") || text.startsWith("U2")) {
      moveBlock(text.charAt(1) == '2', numbers(text, 3));
    } else if (text.startsWith("B-P")) {
      int[] two = numbers(text, 2);
      buffer(two[0]).place = two[1] % 64;
    } else if (text.startsWith("B-A") || text.startsWith("B-F")) {
      int[] two = numbers(text, 2);
      allocate(text.charAt(2) == 'A', new Place(two[0], two[1]));
    } else if (text.startsWith("M-W") || text.startsWith("M-R") || text.startsWith("M-E")) {
      program(text);
    } else {
      throw new Fault(31, 0, 0);
    }
  }

  private int[] numbers(String text, int count) {
    wanted(text.indexOf(':') >= 0, 30);
    String[] parts = text.substring(text.indexOf(':')).split("[^0-9]+");
    int[] all = new int[count];
    for (int i = 0; i < count; i++) {
      // What stands ahead of the first one is no digit, so part 0 is empty.
      wanted(i + 1 < parts.length && parts[i + 1].length() <= 3, 30);
      all[i] = Integer.parseInt(parts[i + 1]);
      wanted(all[i] <= 255, 30);
    }
    return all;
  }

  private void makeNew(String text) {
    wanted(text.startsWith("N:"), 30);
    int comma = text.indexOf(',');
    String name = text.substring(2, comma < 0 ? text.length() : comma);
    wanted(!name.isEmpty() && name.length() <= 10 && (comma < 0 || text.length() == comma + 3), 30);
    wanted(!isWild(name), 33);
    if (comma >= 0) {
      int i = text.charAt(comma + 1);
      int j = text.charAt(comma + 2);
      shutAll();
      for (int t = 12; t >= 1; t--) {
        if (isProtected) {
          throw new Fault(26, t, 0);
        }
        put(rings[t], 0, Bits.formatted(t, i, j));
      }
      id = new int[] {i, j};
    }
    takeIfNone();
    int[] map = new int[64];
    map[0] = 7;
    map[1] = 1;
    map[2] = 68;
    freeAll(map);
    taken(map, MAP);
    taken(map, new Place(7, 1));
    putName(map, 28, name);
    map[38] = id[0];
    map[39] = id[1];
    storeMap(map);
    writeBlock(new Place(7, 1), emptyBlock());
  }

  private static void freeAll(int[] map) {
    for (int t = 1; t <= 12; t++) {
      map[2 + 2 * t] = Bits.sectorsOf(t);
      map[3 + 2 * t] = (1 << Bits.sectorsOf(t)) - 1;
    }
  }

  private void scratchAll(String pattern) {
    int many = 0;
    for (Entry entry = findFitting(pattern); entry != null; entry = findFitting(pattern)) {
      scratch(entry);
      many++;
    }
    setStatus(1, many, 0);
  }

  private void rename(String text) {
    int split = text.indexOf('=');
    wanted(text.startsWith("R:") && split >= 0, 30);
    String name = text.substring(2, split);
    String old = text.substring(split + 1);
    wanted(!name.isEmpty() && !old.isEmpty() && name.length() <= 10 && old.length() <= 10, 30);
    wanted(!isWild(name) && !isWild(old), 33);
    wanted(findNamed(name) == null, 63);
    Entry entry = findNamed(old);
    wanted(entry != null, 62);
    change(entry, row -> putName(row, 5, name));
  }

  private void validate() {
    int[] map = loadMap();
    freeAll(map);
    taken(map, MAP);
    List<Place> directory = new ArrayList<>();
    Place block = new Place(7, 1);
    int[] bytes;
    do {
      if (!block.isLegal()) {
        throw block.fault(71);
      }
      if (bit(map, block.track, block.sector)) {
        taken(map, block);
      }
      directory.add(block);
      bytes = readBlock(block);
      block = new Place(bytes[0], bytes[1]);
    } while (bytes[0] != 0 && directory.size() < 6);
    for (Place one : directory) {
      for (int k = 0; k < 4; k++) {
        Entry entry = entryOf(one, readBlock(one), k);
        if (entry.type() == 0) {
          continue;
        }
        if (!entry.isClosed()) {
          change(entry, row -> row[2] = 0);
        } else {
          validateChain(map, entry.first());
        }
      }
    }
    storeMap(map);
  }

  private void validateChain(int[] map, Place from) {
    Place block = from;
    int[] bytes;
    do {
      if (!block.isLegal() || !bit(map, block.track, block.sector)) {
        throw block.fault(71);
      }
      taken(map, block);
      bytes = readBlock(block);
      block = new Place(bytes[0], bytes[1]);
    } while (bytes[0] != 0);
  }

  private Channel buffer(int c) {
    wanted(c < 15 && channels[c].kind == 'B', 70);
    return channels[c];
  }

  private void moveBlock(boolean toDisk, int[] three) {
    Channel channel = buffer(three[0]);
    Place block = new Place(three[1], three[2]);
    if (!block.isLegal()) {
      throw block.fault(66);
    }
    if (toDisk) {
      writeBlock(block, channel.bytes);
    } else {
      channel.bytes = readBlock(block);
      channel.place = 0;
    }
  }

  private void allocate(boolean takes, Place block) {
    if (!block.isLegal()) {
      throw block.fault(66);
    }
    int[] map = loadMap();
    if (!takes) {
      giveBack(map, block);
    } else if (bit(map, block.track, block.sector)) {
      taken(map, block);
    } else {
      for (int t = block.track; t <= 12; t++) {
        for (int s = t == block.track ? block.sector + 1 : 0; s < Bits.sectorsOf(t); s++) {
          if (bit(map, t, s)) {
            throw new Fault(65, t, s);
          }
        }
      }
      throw new Fault(65, 0, 0);
    }
    storeMap(map);
  }

  private void program(String text) {
    String all = text + "\0\0\0";
    int address = all.charAt(3) + 256 * all.charAt(4);
    int n = all.charAt(5);
    if (text.charAt(2) == 'W') {
      for (int i = 0; i < n && 6 + i < text.length(); i++) {
        chip.memory[(address + i) % 2048] = text.charAt(6 + i);
      }
    } else if (text.charAt(2) == 'R') {
      wanted(n <= 32, 32);
      for (int i = 0; i < n; i++) {
        reply += (char) chip.memory[(address + i) % 2048];
      }
    } else {
      String[] how = chip.run(address).split(" ");
      setStatus(Integer.parseInt(how[0]), Integer.parseInt(how[1]), Integer.parseInt(how[2]));
    }
  }
}
