import java.util.ArrayList;

/**
 * Carries files to and from a tree of directories, told what to do line by line.
 * The replies are written as the document's own numbers, so that both read side by side.
 */
public final class RootedFerry {
    public static final int NONE = -1;

    private static final int MOST_ACCOUNTS = 4;
    private static final int MOST_BYTES = 200;

    // What a command wants behind its space.
    private static final int NOTHING = 0;
    private static final int A_NAME = 1;
    private static final int A_PATH = 2;
    private static final int PERHAPS_A_PATH = 3;
    private static final int A_NUMBER = 4;
    private static final int A_PORT = 5;
    private static final int ANYTHING = 6;

    private static final Command[] COMMANDS = Command.values();

    private final Line line = new Line();
    private final Tree tree = new Tree();
    private final ArrayList<Account> accounts = new ArrayList<Account>();
    private final Path path = new Path();
    private final Message message = new Message();
    private final Cargo cargo = new Cargo();
    private final Memory earlier = new Memory();
    private final Memory later = new Memory();
    private boolean connected = false;
    private int lastReply = 0;
    // null as long as nobody is logged in
    private Node root = null;
    private Node current = null;
    private boolean image = false;
    private Way way = Way.NONE;
    private int calledPort = NONE;
    private int clientPort = NONE;

    public RootedFerry() {
    }

    public boolean account(long user, long password) {
        long userName = Name.withoutDots(Name.partOfWord(user));
        long passwordName = Name.withoutDots(Name.partOfWord(password));
        if (connected || accounts.size() >= MOST_ACCOUNTS) {
            return false;
        }
        if (userName == Name.NO || passwordName == Name.NO || accountOf(userName) != null) {
            return false;
        }
        Node directory = tree.add(null, Name.NO, true);
        if (directory == null) {
            return false;
        }
        accounts.add(new Account(userName, passwordName, directory));
        return true;
    }

    public boolean open() {
        if (connected) {
            return false;
        }
        connected = true;
        logOut();
        image = false;
        way = Way.NONE;
        later.clear();
        lastReply = 220;
        return true;
    }

    public boolean type(char c) {
        return line.add(c);
    }

    public int word(long s) {
        for (int i = 0; i < 8; i++) {
            char c = (char) (s >>> 8 * i & 255);
            // 0 needs no look of its own: the line refuses it
            if (!line.add(c)) {
                return i;
            }
        }
        return 8;
    }

    public int enter() {
        int answer = NONE;
        if (connected) {
            earlier.takeOver(later);
            answer = answerLine();
            lastReply = answer;
        }
        line.clear();
        return answer;
    }

    public int reply() {
        return lastReply;
    }

    public char text(int i) {
        return lastReply == 257 || lastReply == 213 ? message.at(i) : (char) 0;
    }

    public boolean join() {
        if (way != Way.WAITING) {
            return false;
        }
        way = Way.JOINED;
        return true;
    }

    public boolean listen(int port) {
        if (port < NONE || port > 65535) {
            return false;
        }
        clientPort = port;
        return true;
    }

    public int take() {
        if (cargo.kind != Cargo.GIVING) {
            return NONE;
        }
        int next = cargo.next();
        if (next == NONE) {
            dropTransfer();
            lastReply = 226;
        }
        return next;
    }

    public boolean give(int b) {
        return cargo.kind == Cargo.TAKING && cargo.receive(b & 255);
    }

    public int end() {
        if (cargo.kind != Cargo.TAKING) {
            return NONE;
        }
        lastReply = storeCargo() ? 226 : 452;
        dropTransfer();
        return lastReply;
    }

    public int transfer() {
        return cargo.kind;
    }

    public int nodes() {
        return tree.countNodes();
    }

    public int bytes() {
        return tree.countBytes();
    }

    private Account accountOf(long user) {
        for (int i = 0; i < accounts.size(); i++) {
            Account account = accounts.get(i);
            if (account.user == user) {
                return account;
            }
        }
        return null;
    }

    private void logOut() {
        root = null;
        current = null;
    }

    private void dropTransfer() {
        cargo.clear();
        way = Way.NONE;
    }

    private int answerLine() {
        Command command = commandOfLine();
        if (command == null || line.endsWithItsSpace()) {
            return 500;
        }
        if (!argumentFits(command)) {
            return 501;
        }
        if (root == null && !command.withoutLogin) {
            return 530;
        }
        if (cargo.kind != Cargo.NO && !command.duringTransfer) {
            return 503;
        }
        if (command.argument == A_PATH || command.argument == PERHAPS_A_PATH) {
            path.walk(tree, root, current);
            return runOnPath(command);
        }
        return run(command);
    }

    private Command commandOfLine() {
        for (Command command : COMMANDS) {
            if (line.startsWithCommand(command.letters)) {
                return command;
            }
        }
        return null;
    }

    private boolean argumentFits(Command command) {
        if (!line.hasArgument()) {
            path.stay();
            return command.argument == NOTHING || command.argument == PERHAPS_A_PATH;
        }
        switch (command.argument) {
            case A_NAME:
                return line.argumentName() != Name.NO;
            case A_PATH:
            case PERHAPS_A_PATH:
                return path.read(line);
            case A_NUMBER:
                return line.argumentNumber() != NONE;
            case A_PORT:
                return line.argumentPort() != NONE;
            case ANYTHING:
                return true;
            default:
                return false;
        }
    }

    private int run(Command command) {
        switch (command) {
            case USER:
                return nameUser();
            case PASS:
                return logIn();
            case QUIT:
                return quit();
            case PWD:
                message.spellPath(current);
                return 257;
            case CDUP:
                return changeTo(tree.step(current, Name.TWO_DOTS), 200);
            case TYPE:
                return chooseType();
            case REST:
                return restart();
            case PASV:
                way = Way.WAITING;
                return 227;
            case PORT:
                way = Way.CALLING;
                calledPort = line.argumentPort();
                return 200;
            case ABOR:
                return abort();
            default:
                // NOOP
                return 200;
        }
    }

    private int runOnPath(Command command) {
        switch (command) {
            case CWD:
                return changeTo(path.end, 250);
            case MKD:
                return makeDirectory();
            case RMD:
                return removeDirectory();
            case DELE:
                return deleteFile();
            case SIZE:
                return tellSize();
            case RNFR:
                return renameFrom();
            case RNTO:
                return renameTo();
            case RETR:
                return retrieve();
            case STOR:
                return takeFile(false);
            case APPE:
                return takeFile(true);
            default:
                // NLST
                return listNames();
        }
    }

    private int nameUser() {
        logOut();
        later.user = line.argumentName();
        return 331;
    }

    private int logIn() {
        if (earlier.user == Name.NO) {
            return 503;
        }
        Account account = accountOf(earlier.user);
        if (account == null || account.password != line.argumentName()) {
            logOut();
            return 530;
        }
        root = account.root;
        current = account.root;
        return 230;
    }

    private int quit() {
        connected = false;
        dropTransfer();
        return 221;
    }

    private int changeTo(Node node, int answer) {
        if (node == null || !node.directory) {
            return 550;
        }
        current = node;
        return answer;
    }

    private int makeDirectory() {
        if (path.placeDirectory == null || path.end != null) {
            return 550;
        }
        Node made = tree.add(path.placeDirectory, path.placeName, true);
        if (made == null) {
            return 550;
        }
        message.spellPath(made);
        return 257;
    }

    private int removeDirectory() {
        Node node = path.end;
        if (node == null || !node.directory || node == root || node == current || !tree.isEmpty(node)) {
            return 550;
        }
        node.free();
        return 250;
    }

    private int deleteFile() {
        Node node = path.end;
        if (node == null || node.directory) {
            return 550;
        }
        node.free();
        return 250;
    }

    private int tellSize() {
        Node node = path.end;
        if (node == null || node.directory) {
            return 550;
        }
        message.spellNumber(node.size);
        return 213;
    }

    private int renameFrom() {
        if (path.end == null || path.end == root) {
            return 550;
        }
        later.renamed = path.end;
        return 350;
    }

    private int renameTo() {
        Node node = earlier.renamed;
        if (node == null) {
            return 503;
        }
        // a file has nothing in it, so the look into it harms no file
        if (path.placeDirectory == null || path.end != null || tree.liesIn(path.placeDirectory, node)) {
            return 553;
        }
        node.parent = path.placeDirectory;
        node.name = path.placeName;
        return 250;
    }

    private int chooseType() {
        char letter = line.argumentLength() == 1 ? Line.capital(line.at(line.argumentStart())) : (char) 0;
        if (letter != 'A' && letter != 'I') {
            return 504;
        }
        image = letter == 'I';
        return 200;
    }

    private int restart() {
        if (!image) {
            return 504;
        }
        later.restart = line.argumentNumber();
        return 350;
    }

    private int abort() {
        if (cargo.kind == Cargo.NO) {
            return 226;
        }
        dropTransfer();
        return 426;
    }

    private int retrieve() {
        Node file = path.end;
        if (file == null || file.directory || earlier.restart > file.size) {
            return 550;
        }
        if (!dataConnects()) {
            return 425;
        }
        cargo.giveFile(file, earlier.restart, !image);
        return 150;
    }

    private int listNames() {
        Node directory = path.end;
        if (directory == null || !directory.directory) {
            return 550;
        }
        if (!dataConnects()) {
            return 425;
        }
        cargo.giveNames(tree, directory);
        return 150;
    }

    private int takeFile(boolean append) {
        Node file = path.end;
        if (file == null ? path.placeDirectory == null : file.directory) {
            return 553;
        }
        if (file == null && tree.isFull()) {
            return 452;
        }
        if (!dataConnects()) {
            return 425;
        }
        cargo.startTaking(file, path.placeDirectory, path.placeName, append);
        return 150;
    }

    private boolean dataConnects() {
        if (way == Way.JOINED || way == Way.CALLING && calledPort == clientPort) {
            return true;
        }
        way = Way.NONE;
        return false;
    }

    private boolean storeCargo() {
        if (!image) {
            cargo.leaveOutReturns();
        }
        int before = cargo.file == null ? 0 : cargo.file.size;
        int kept = cargo.append ? before : 0;
        int after = kept + cargo.length;
        if (after > Node.MOST_BYTES || tree.countBytes() - before + after > MOST_BYTES) {
            return false;
        }
        Node file = cargo.file == null ? tree.add(cargo.directory, cargo.name, false) : cargo.file;
        if (file == null) {
            return false;
        }
        System.arraycopy(cargo.data, 0, file.content, kept, cargo.length);
        file.size = after;
        return true;
    }

    private enum Command {
        USER("USER", A_NAME, true, false),
        PASS("PASS", A_NAME, true, false),
        QUIT("QUIT", NOTHING, true, true),
        NOOP("NOOP", NOTHING, true, true),
        PWD("PWD", NOTHING, false, false),
        CWD("CWD", A_PATH, false, false),
        CDUP("CDUP", NOTHING, false, false),
        MKD("MKD", A_PATH, false, false),
        RMD("RMD", A_PATH, false, false),
        DELE("DELE", A_PATH, false, false),
        SIZE("SIZE", A_PATH, false, false),
        RNFR("RNFR", A_PATH, false, false),
        RNTO("RNTO", A_PATH, false, false),
        TYPE("TYPE", ANYTHING, false, false),
        REST("REST", A_NUMBER, false, false),
        PASV("PASV", NOTHING, false, false),
        PORT("PORT", A_PORT, false, false),
        ABOR("ABOR", NOTHING, false, true),
        RETR("RETR", A_PATH, false, false),
        STOR("STOR", A_PATH, false, false),
        APPE("APPE", A_PATH, false, false),
        NLST("NLST", PERHAPS_A_PATH, false, false);

        final String letters;
        final int argument;
        final boolean withoutLogin;
        final boolean duringTransfer;

        Command(String letters, int argument, boolean withoutLogin, boolean duringTransfer) {
            this.letters = letters;
            this.argument = argument;
            this.withoutLogin = withoutLogin;
            this.duringTransfer = duringTransfer;
        }
    }

    private enum Way { NONE, WAITING, JOINED, CALLING }

    /**
     * Names are kept in a long, the first character highest and 0 behind the last one:
     * so the order of the numbers is the order of the alphabet.
     */
    private static final class Name {
        static final int MOST = 6;
        static final long NO = 0L;
        static final long ONE_DOT = (long) '.' << 40;
        static final long TWO_DOTS = (long) '.' << 40 | (long) '.' << 32;

        /** The name, '.' or '..' that the bytes of a word are, the lowest first, up to a byte 0; NO for all else. */
        static long partOfWord(long word) {
            long name = NO;
            for (int i = 0; i < 8; i++) {
                int c = (int) (word >>> 8 * i & 255);
                if (c == 0) {
                    return name;
                }
                if (i >= MOST || !isSign(c)) {
                    return NO;
                }
                name |= (long) c << 8 * (MOST - 1 - i);
            }
            return name;
        }

        static long partOfLine(Line line, int from, int to) {
            if (to - from > MOST) {
                return NO;
            }
            long word = 0L;
            for (int i = from; i < to; i++) {
                word |= (long) line.at(i) << 8 * (i - from);
            }
            return partOfWord(word);
        }

        static boolean isDots(long part) {
            return part == ONE_DOT || part == TWO_DOTS;
        }

        static long withoutDots(long part) {
            return isDots(part) ? NO : part;
        }

        /** Character i, 0 behind the name. */
        static int signOf(long name, int i) {
            return (int) (name >>> 8 * (MOST - 1 - i) & 255);
        }

        private static boolean isSign(int c) {
            return c >= 'a' && c <= 'z' || c >= '0' && c <= '9' || c == '-' || c == '.';
        }
    }

    private static final class Account {
        final long user;
        final long password;
        final Node root;

        Account(long user, long password, Node root) {
            this.user = user;
            this.password = password;
            this.root = root;
        }
    }

    /** What only the very next line may use. */
    private static final class Memory {
        int restart = 0;
        long user = Name.NO;
        Node renamed = null;

        void takeOver(Memory other) {
            restart = other.restart;
            user = other.user;
            renamed = other.renamed;
            other.clear();
        }

        void clear() {
            restart = 0;
            user = Name.NO;
            renamed = null;
        }
    }

    private static final class Line {
        private static final int MOST_DIGITS = 3;

        private final char[] signs = new char[32];
        private int length = 0;

        boolean add(char c) {
            if (c < 32 || c > 126 || length >= signs.length) {
                return false;
            }
            signs[length] = c;
            length++;
            return true;
        }

        void clear() {
            length = 0;
        }

        char at(int i) {
            return i >= 0 && i < length ? signs[i] : (char) 0;
        }

        int length() {
            return length;
        }

        boolean startsWithCommand(String letters) {
            if (commandLength() != letters.length()) {
                return false;
            }
            for (int i = 0; i < letters.length(); i++) {
                if (capital(at(i)) != letters.charAt(i)) {
                    return false;
                }
            }
            return true;
        }

        boolean endsWithItsSpace() {
            return length == commandLength() + 1;
        }

        boolean hasArgument() {
            return argumentLength() > 0;
        }

        int argumentStart() {
            return commandLength() + 1;
        }

        int argumentLength() {
            return length - argumentStart();
        }

        long argumentName() {
            return Name.withoutDots(Name.partOfLine(this, argumentStart(), length));
        }

        int argumentNumber() {
            return number(argumentStart(), length);
        }

        /** The port that h,h,h,h,p,q tells; NONE if the argument is not that. */
        int argumentPort() {
            int port = 0;
            int count = 0;
            int from = argumentStart();
            for (int i = from; i <= length; i++) {
                if (i == length || at(i) == ',') {
                    int number = number(from, i);
                    if (number == NONE || number > 255) {
                        return NONE;
                    }
                    port = (port << 8 | number) & 65535;
                    count++;
                    from = i + 1;
                }
            }
            return count == 6 ? port : NONE;
        }

        static char capital(char c) {
            return c >= 'a' && c <= 'z' ? (char) (c - 32) : c;
        }

        private int commandLength() {
            for (int i = 0; i < length && i < signs.length; i++) {
                if (signs[i] == ' ') {
                    return i;
                }
            }
            return length;
        }

        private int number(int from, int to) {
            if (from >= to || to - from > MOST_DIGITS) {
                return NONE;
            }
            int number = 0;
            for (int i = from; i < to; i++) {
                char c = at(i);
                if (c < '0' || c > '9') {
                    return NONE;
                }
                number = number * 10 + c - '0';
            }
            return number;
        }
    }

    /** A path, read from a line first and then walked: where it leads to, and what its place is. */
    private static final class Path {
        private final long[] parts = new long[16];
        private int count = 0;
        private boolean fromRoot = false;
        private boolean slashBehind = false;

        Node end = null;
        // null if there is no place
        Node placeDirectory = null;
        long placeName = Name.NO;

        /** Becomes the path that goes nowhere from the current directory. */
        void stay() {
            count = 0;
            fromRoot = false;
            slashBehind = false;
        }

        /** Becomes the line's argument; answers whether that is a path. */
        boolean read(Line line) {
            stay();
            int from = line.argumentStart();
            int to = line.length();
            fromRoot = line.at(from) == '/';
            if (fromRoot) {
                from++;
            }
            for (int i = from; i < to; i++) {
                if (line.at(i) == '/') {
                    if (!addPart(Name.partOfLine(line, from, i))) {
                        return false;
                    }
                    from = i + 1;
                }
            }
            slashBehind = count > 0 && from == to;
            return from == to || addPart(Name.partOfLine(line, from, to));
        }

        void walk(Tree tree, Node root, Node current) {
            Node before = null;
            end = fromRoot ? root : current;
            for (int i = 0; i < count; i++) {
                before = end;
                end = tree.step(end, parts[i]);
            }
            findPlace(before);
            if (slashBehind) {
                end = tree.step(end, Name.ONE_DOT);
            }
        }

        private boolean addPart(long part) {
            if (part == Name.NO || count >= parts.length) {
                return false;
            }
            parts[count] = part;
            count++;
            return true;
        }

        private void findPlace(Node before) {
            placeDirectory = null;
            placeName = Name.NO;
            if (before == null || !before.directory || slashBehind || count == 0 || Name.isDots(parts[count - 1])) {
                return;
            }
            placeDirectory = before;
            placeName = parts[count - 1];
        }
    }

    private static final class Node {
        static final int MOST_BYTES = 32;

        final int[] content = new int[MOST_BYTES];
        int size = 0;
        boolean used = false;
        boolean directory = false;
        long name = Name.NO;
        // null for a root
        Node parent = null;

        void free() {
            used = false;
            parent = null;
            size = 0;
        }
    }

    /** All nodes of all accounts; those that are not used wait for the next one that is made. */
    private static final class Tree {
        static final int MOST_NODES = 24;

        private final Node[] all = new Node[MOST_NODES];

        Tree() {
            for (int i = 0; i < all.length; i++) {
                all[i] = new Node();
            }
        }

        /** The new node; null if there are as many as may be. */
        Node add(Node parent, long name, boolean directory) {
            for (Node node : all) {
                if (!node.used) {
                    node.used = true;
                    node.parent = parent;
                    node.name = name;
                    node.directory = directory;
                    return node;
                }
            }
            return null;
        }

        boolean isFull() {
            return countNodes() >= MOST_NODES;
        }

        int countNodes() {
            int count = 0;
            for (Node node : all) {
                if (node.used) {
                    count++;
                }
            }
            return count;
        }

        int countBytes() {
            int count = 0;
            for (Node node : all) {
                if (node.used) {
                    count += node.size;
                }
            }
            return count;
        }

        /** Where one part of a path goes from a node; null for nothing. */
        Node step(Node from, long part) {
            if (from == null || !from.directory) {
                return null;
            }
            if (part == Name.ONE_DOT) {
                return from;
            }
            if (part == Name.TWO_DOTS) {
                return from.parent == null ? from : from.parent;
            }
            return child(from, part);
        }

        boolean isEmpty(Node directory) {
            return nextName(directory, Name.NO) == Name.NO;
        }

        /** The first name in the directory behind the one given, in the order of the alphabet; NO if there is none. */
        long nextName(Node directory, long behind) {
            long next = Name.NO;
            for (Node node : all) {
                if (node.used && node.parent == directory && node.name > behind
                        && (next == Name.NO || node.name < next)) {
                    next = node.name;
                }
            }
            return next;
        }

        /** Whether a node is the other one or lies in it, at any depth. */
        boolean liesIn(Node node, Node other) {
            Node at = node;
            for (int depth = 0; depth < MOST_NODES && at != null; depth++) {
                if (at == other) {
                    return true;
                }
                at = at.parent;
            }
            return false;
        }

        private Node child(Node directory, long name) {
            for (Node node : all) {
                if (node.used && node.parent == directory && node.name == name) {
                    return node;
                }
            }
            return null;
        }
    }

    /** The text of a reply, written from its end: the way up to the root tells its names in that order. */
    private static final class Message {
        private final char[] signs = new char[Tree.MOST_NODES * (Name.MOST + 1)];
        private int start = signs.length;

        char at(int i) {
            return i >= 0 && i < signs.length - start ? signs[start + i] : (char) 0;
        }

        void spellPath(Node directory) {
            start = signs.length;
            Node at = directory;
            for (int depth = 0; depth < Tree.MOST_NODES && at != null && at.parent != null; depth++) {
                putName(at.name);
                putBefore('/');
                at = at.parent;
            }
            if (start == signs.length) {
                putBefore('/');
            }
        }

        void spellNumber(int number) {
            start = signs.length;
            if (number >= 10) {
                putBefore((char) ('0' + number % 10));
                putBefore((char) ('0' + number / 10));
            } else {
                putBefore((char) ('0' + number));
            }
        }

        private void putName(long name) {
            for (int i = Name.MOST - 1; i >= 0; i--) {
                int c = Name.signOf(name, i);
                if (c != 0) {
                    putBefore((char) c);
                }
            }
        }

        private void putBefore(char c) {
            if (start > 0) {
                start--;
                signs[start] = c;
            }
        }
    }

    /** The transfer and its data; it is clear whenever there is none. */
    private static final class Cargo {
        static final int NO = 0;
        static final int GIVING = 1;
        static final int TAKING = 2;

        private static final int MOST_TAKEN = 80;

        // the longest is a list of names, each with two bytes behind it
        final int[] data = new int[Tree.MOST_NODES * (Name.MOST + 2)];
        int kind = NO;
        int length = 0;
        private int position = 0;

        // where what is taken goes to: a file, or if that is null, a place
        Node file = null;
        Node directory = null;
        long name = Name.NO;
        boolean append = false;

        void clear() {
            kind = NO;
            length = 0;
            position = 0;
            file = null;
            directory = null;
            name = Name.NO;
            append = false;
        }

        void giveFile(Node given, int from, boolean ascii) {
            kind = GIVING;
            for (int i = from; i >= 0 && i < given.size && i < given.content.length; i++) {
                if (ascii && given.content[i] == 10) {
                    add(13);
                }
                add(given.content[i]);
            }
        }

        void giveNames(Tree tree, Node given) {
            kind = GIVING;
            long next = tree.nextName(given, Name.NO);
            for (int count = 0; count < Tree.MOST_NODES && next != Name.NO; count++) {
                for (int i = 0; i < Name.MOST && Name.signOf(next, i) != 0; i++) {
                    add(Name.signOf(next, i));
                }
                add(13);
                add(10);
                next = tree.nextName(given, next);
            }
        }

        void startTaking(Node toFile, Node toDirectory, long underName, boolean behind) {
            kind = TAKING;
            file = toFile;
            directory = toDirectory;
            name = underName;
            append = behind;
        }

        /** The next byte to be given; NONE behind the last one. */
        int next() {
            if (position >= length || position >= data.length) {
                return NONE;
            }
            position++;
            return data[position - 1];
        }

        boolean receive(int b) {
            if (length >= MOST_TAKEN) {
                return false;
            }
            add(b);
            return true;
        }

        /** Leaves out each byte 13 that stands right before a byte 10. */
        void leaveOutReturns() {
            int came = length;
            length = 0;
            for (int i = 0; i < came && i < data.length; i++) {
                boolean beforeNewline = i + 1 < came && i + 1 < data.length && data[i + 1] == 10;
                if (data[i] != 13 || !beforeNewline) {
                    add(data[i]);
                }
            }
        }

        private void add(int b) {
            if (length < data.length) {
                data[length] = b;
                length++;
            }
        }
    }
}
