import java.util.ArrayList;
import java.util.NoSuchElementException;

/** Two ends write in one text at the same time, each in its own copy, with a centre between them. */
public final class Couplet {
    private static final int MOST_CHARACTERS = 60;
    private static final int MOST_OPERATIONS = 200;
    /** Far above what can be under way: 200 operations are at most 600 deliveries. */
    private static final int MOST_DELIVERIES = 1000000;

    private final End first;
    private final End second;
    private final Centre centre;
    private final Text rebuilt;
    private final Changes changes;
    private int operationsMade;

    public Couplet() {
        first = new End(0);
        second = new End(1);
        centre = new Centre();
        rebuilt = new Text();
        changes = new Changes();
        operationsMade = 0;
    }

    // Writing at the ends

    public int insert(int end, int position, char character)
            throws IndexOutOfBoundsException, IllegalArgumentException, IllegalStateException {
        End writer = endNumbered(end);
        if (!writer.text.hasPlace(position)) {
            throw new IllegalArgumentException("there is no such position");
        }
        requireWritable(character);
        requireRoom(writer);
        writeKept(writer, position, character);
        return writer.text.size();
    }

    public char delete(int end, int position)
            throws IndexOutOfBoundsException, IllegalArgumentException, IllegalStateException {
        End writer = endNumbered(end);
        if (!writer.text.hasCharacter(position)) {
            throw new IllegalArgumentException("there is no such position");
        }
        requireOperationLeft();
        return removeKept(writer, position);
    }

    public int type(int end, char character)
            throws IndexOutOfBoundsException, IllegalArgumentException, IllegalStateException {
        End writer = endNumbered(end);
        requireWritable(character);
        requireRoom(writer);
        writeKept(writer, writer.cursor, character);
        return writer.cursor;
    }

    public char erase(int end)
            throws IndexOutOfBoundsException, NoSuchElementException, IllegalStateException {
        End writer = endNumbered(end);
        int position = writer.cursor - 1;
        if (!writer.text.hasCharacter(position)) {
            throw new NoSuchElementException("nothing is ahead of the cursor");
        }
        requireOperationLeft();
        return removeKept(writer, position);
    }

    public int moveCursor(int end, int position)
            throws IndexOutOfBoundsException, IllegalArgumentException {
        End writer = endNumbered(end);
        if (!writer.text.hasPlace(position)) {
            throw new IllegalArgumentException("there is no such position");
        }
        int before = writer.cursor;
        writer.cursor = position;
        return before;
    }

    public boolean undo(int end)
            throws IndexOutOfBoundsException, NoSuchElementException, IllegalStateException {
        End writer = endNumbered(end);
        int latest = writer.kept.size() - 1;
        if (latest < 0) {
            throw new NoSuchElementException("no operation is kept");
        }
        Kept undone = writer.kept.get(latest);
        return undone.inserted
                ? takeBack(writer, latest, undone.letter)
                : putBack(writer, latest, undone);
    }

    // Delivering

    public int deliverUp(int end) throws IndexOutOfBoundsException, NoSuchElementException {
        End sender = endNumbered(end);
        if (sender.up.isEmpty()) {
            throw new NoSuchElementException("no message from this end");
        }
        Message message = sender.up.remove(0);
        centre.enter(message);
        first.down.add(message);
        second.down.add(message);
        return message.operations.size();
    }

    public char deliverDown(int end) throws IndexOutOfBoundsException, NoSuchElementException {
        End receiver = endNumbered(end);
        if (receiver.down.isEmpty()) {
            throw new NoSuchElementException("no message to this end");
        }
        Message message = receiver.down.remove(0);
        receiver.get(message);
        return message.end == receiver.number ? 'a' : 'o';
    }

    public int deliverAll() {
        for (int delivered = 0; delivered < MOST_DELIVERIES; delivered++) {
            if (!first.up.isEmpty()) {
                deliverUp(0);
            } else if (!second.up.isEmpty()) {
                deliverUp(1);
            } else if (!first.down.isEmpty()) {
                deliverDown(0);
            } else if (!second.down.isEmpty()) {
                deliverDown(1);
            } else {
                return delivered;
            }
        }
        return MOST_DELIVERIES;
    }

    // The texts

    public int length(int end) throws IndexOutOfBoundsException {
        return endNumbered(end).text.size();
    }

    public char charAt(int end, int position)
            throws IndexOutOfBoundsException, IllegalArgumentException {
        return letterOf(endNumbered(end).text, position).look;
    }

    public int ownerAt(int end, int position)
            throws IndexOutOfBoundsException, IllegalArgumentException {
        return letterOf(endNumbered(end).text, position).owner;
    }

    public int lengthByHistory(int end) throws IndexOutOfBoundsException {
        rebuild(endNumbered(end));
        return rebuilt.size();
    }

    public char charByHistory(int end, int position)
            throws IndexOutOfBoundsException, IllegalArgumentException {
        rebuild(endNumbered(end));
        return letterOf(rebuilt, position).look;
    }

    public int centreLength() {
        return centre.text.size();
    }

    public char centreChar(int position) throws IllegalArgumentException {
        return letterOf(centre.text, position).look;
    }

    // The state of the ends

    public int cursor(int end) throws IndexOutOfBoundsException {
        return endNumbered(end).cursor;
    }

    public int mark(int end) throws IndexOutOfBoundsException {
        return endNumbered(end).mark;
    }

    public int revision(int end) throws IndexOutOfBoundsException {
        return endNumbered(end).revision;
    }

    public int sent(int end) throws IndexOutOfBoundsException {
        return endNumbered(end).sent.size();
    }

    public int waiting(int end) throws IndexOutOfBoundsException {
        return endNumbered(end).waiting.size();
    }

    public int runs(int end) throws IndexOutOfBoundsException {
        return endNumbered(end).countRuns();
    }

    public int up(int end) throws IndexOutOfBoundsException {
        return endNumbered(end).up.size();
    }

    public int down(int end) throws IndexOutOfBoundsException {
        return endNumbered(end).down.size();
    }

    public int kept(int end) throws IndexOutOfBoundsException {
        return endNumbered(end).kept.size();
    }

    // The history

    public int centreRevision() {
        return centre.history.size();
    }

    public int historyEnd(int message) throws NoSuchElementException {
        return messageOf(message).end;
    }

    public int historySize(int message) throws NoSuchElementException {
        return messageOf(message).operations.size();
    }

    public char historyKind(int message, int operation)
            throws NoSuchElementException, IndexOutOfBoundsException {
        return operationOf(message, operation).kind;
    }

    public int historyPosition(int message, int operation)
            throws NoSuchElementException, IndexOutOfBoundsException {
        return operationOf(message, operation).position;
    }

    // What follows from the texts and the history

    public boolean agree() {
        return first.text.looksLike(second.text) && first.text.looksLike(centre.text);
    }

    public int distance() {
        return changes.byTable(first.text, second.text);
    }

    public int distanceByWays() {
        return changes.byWays(first.text, second.text);
    }

    public float ownShare(int end) throws IndexOutOfBoundsException, ArithmeticException {
        End owner = endNumbered(end);
        int all = owner.text.size();
        if (all == 0) {
            throw new ArithmeticException("the text is empty");
        }
        return (float) owner.text.countOf(end) / (float) all;
    }

    public double meanRun() throws ArithmeticException {
        int messages = centre.history.size();
        if (messages == 0) {
            throw new ArithmeticException("the history has no messages");
        }
        return (double) centre.countOperations() / (double) messages;
    }

    public long textNumber(int end) throws IndexOutOfBoundsException {
        return endNumbered(end).text.number();
    }

    // What the calls demand

    private End endNumbered(int end) {
        if (end != 0 && end != 1) {
            throw new IndexOutOfBoundsException("there is no such end");
        }
        return end == 0 ? first : second;
    }

    private static void requireWritable(char character) {
        if (character < ' ' || character > '~') {
            throw new IllegalArgumentException("this character can not be written");
        }
    }

    private void requireOperationLeft() {
        if (operationsMade >= MOST_OPERATIONS) {
            throw new IllegalStateException("all operations were made");
        }
    }

    private void requireRoom(End writer) {
        if (writer.text.size() >= MOST_CHARACTERS) {
            throw new IllegalStateException("the text is full");
        }
        requireOperationLeft();
    }

    private static Letter letterOf(Text text, int position) {
        if (!text.hasCharacter(position)) {
            throw new IllegalArgumentException("there is no such position");
        }
        return text.letters.get(position);
    }

    private Message messageOf(int index) {
        if (index < 0 || index >= centre.history.size()) {
            throw new NoSuchElementException("there is no such message");
        }
        return centre.history.get(index);
    }

    private Operation operationOf(int message, int index) {
        ArrayList<Operation> operations = messageOf(message).operations;
        if (index < 0 || index >= operations.size()) {
            throw new IndexOutOfBoundsException("there is no such operation");
        }
        return operations.get(index);
    }

    // How operations are made; the calls have tested all that these are given

    private void writeKept(End writer, int position, char look) {
        Letter letter = new Letter(look, writer.number);
        writer.make(new Operation(writer.number, Operation.INSERTS, position, letter));
        operationsMade++;
        writer.kept.add(new Kept(true, letter, position));
    }

    private char removeKept(End writer, int position) {
        Letter letter = writer.text.letters.get(position);
        writer.make(new Operation(writer.number, Operation.DELETES, position, letter));
        operationsMade++;
        writer.kept.add(new Kept(false, letter, position));
        return letter.look;
    }

    /** Undoes an insertion, the latest operation that is kept. */
    private boolean takeBack(End writer, int latest, Letter letter) {
        int position = writer.text.positionOf(letter);
        if (position < 0) {
            writer.kept.remove(latest);
            return false;
        }
        requireOperationLeft();
        writer.kept.remove(latest);
        writer.make(new Operation(writer.number, Operation.DELETES, position, letter));
        operationsMade++;
        return true;
    }

    /** Undoes a deletion, the latest operation that is kept. */
    private boolean putBack(End writer, int latest, Kept undone) {
        requireRoom(writer);
        writer.kept.remove(latest);
        Letter letter = new Letter(undone.letter.look, writer.number);
        writer.make(new Operation(writer.number, Operation.INSERTS, undone.place, letter));
        operationsMade++;
        return true;
    }

    private void rebuild(End end) {
        rebuilt.letters.clear();
        for (int i = 0; i < end.revision && i < centre.history.size(); i++) {
            rebuilt.carryOutAll(centre.history.get(i).operations);
        }
        rebuilt.carryOutAll(end.sent);
        rebuilt.carryOutAll(end.waiting);
    }

    /** A character of its own: two that look the same are still two. */
    private static final class Letter {
        final char look;
        final int owner;

        Letter(char look, int owner) {
            this.look = look;
            this.owner = owner;
        }
    }

    private static final class Text {
        final ArrayList<Letter> letters = new ArrayList<Letter>();

        int size() {
            return letters.size();
        }

        boolean hasCharacter(int position) {
            return position >= 0 && position < letters.size();
        }

        boolean hasPlace(int position) {
            return position >= 0 && position <= letters.size();
        }

        void carryOut(Operation operation) {
            int position = operation.position;
            if (operation.kind == Operation.INSERTS && hasPlace(position)) {
                letters.add(position, operation.letter);
            } else if (operation.kind == Operation.DELETES && hasCharacter(position)) {
                letters.remove(position);
            }
        }

        void carryOutAll(ArrayList<Operation> operations) {
            for (int i = 0; i < operations.size(); i++) {
                carryOut(operations.get(i));
            }
        }

        /** Where this very letter is; -1 if it is not here. */
        int positionOf(Letter letter) {
            for (int i = 0; i < letters.size(); i++) {
                if (letters.get(i) == letter) {
                    return i;
                }
            }
            return -1;
        }

        int countOf(int owner) {
            int count = 0;
            for (int i = 0; i < letters.size(); i++) {
                if (letters.get(i).owner == owner) {
                    count++;
                }
            }
            return count;
        }

        /** Whether letters at two positions, of this text and of another one, look the same. */
        boolean matches(int here, Text other, int there) {
            return hasCharacter(here) && other.hasCharacter(there)
                    && letters.get(here).look == other.letters.get(there).look;
        }

        boolean looksLike(Text other) {
            if (letters.size() != other.letters.size()) {
                return false;
            }
            for (int i = 0; i < letters.size(); i++) {
                if (!matches(i, other, i)) {
                    return false;
                }
            }
            return true;
        }

        long number() {
            long number = 7;
            for (int i = 0; i < letters.size(); i++) {
                number = number * 31 + letters.get(i).look;
            }
            return number;
        }
    }

    private static final class Operation {
        static final char INSERTS = 'i';
        static final char DELETES = 'd';
        static final char NOTHING = 'n';

        final int end;
        final Letter letter;
        char kind;
        int position;

        Operation(int end, char kind, int position, Letter letter) {
            this.end = end;
            this.kind = kind;
            this.position = position;
            this.letter = letter;
        }

        Operation copy() {
            return new Operation(end, kind, position, letter);
        }

        /** Transforms a row by an operation, which goes through it and is transformed as well. */
        static void transformRow(ArrayList<Operation> row, Operation passing) {
            for (int i = 0; i < row.size(); i++) {
                Operation standing = row.get(i);
                char kindBefore = standing.kind;
                int positionBefore = standing.position;
                standing.transform(passing.kind, passing.position, passing.end);
                passing.transform(kindBefore, positionBefore, standing.end);
            }
        }

        private void transform(char otherKind, int otherPosition, int otherEnd) {
            if (otherKind == INSERTS) {
                transformByInsertion(otherPosition, otherEnd);
            } else if (otherKind == DELETES) {
                transformByDeletion(otherPosition);
            }
        }

        private void transformByInsertion(int at, int otherEnd) {
            boolean gives = kind == DELETES || otherEnd == 0;
            if (kind != NOTHING && (at < position || at == position && gives)) {
                position++;
            }
        }

        private void transformByDeletion(int at) {
            if (kind != NOTHING && at < position) {
                position--;
            } else if (kind == DELETES && at == position) {
                kind = NOTHING;
                position = -1;
            }
        }

        /** Where a place is, such as a cursor, when this has been carried out. */
        int move(int place) {
            if (position >= place) {
                return place;
            }
            if (kind == INSERTS) {
                return place + 1;
            }
            return kind == DELETES ? place - 1 : place;
        }

        /** The place at which this leaves the one who made it. */
        int placeBehind() {
            return kind == INSERTS ? position + 1 : position;
        }

        boolean goesOnFrom(Operation before) {
            if (kind == INSERTS) {
                return before.kind == INSERTS && position == before.position + 1;
            }
            return kind == DELETES && before.kind == DELETES
                    && (position == before.position || position == before.position - 1);
        }
    }

    /** Goes from an end to the centre, into its history, and from there to both ends. */
    private static final class Message {
        final int end;
        final int revision;
        final ArrayList<Operation> operations = new ArrayList<Operation>();

        Message(int end, int revision) {
            this.end = end;
            this.revision = revision;
        }
    }

    /** An operation that can be undone. The place is kept up to date for deletions alone. */
    private static final class Kept {
        final boolean inserted;
        final Letter letter;
        int place;

        Kept(boolean inserted, Letter letter, int place) {
            this.inserted = inserted;
            this.letter = letter;
            this.place = place;
        }
    }

    private static final class End {
        final int number;
        final Text text = new Text();
        final ArrayList<Operation> sent = new ArrayList<Operation>();
        final ArrayList<Operation> waiting = new ArrayList<Operation>();
        final ArrayList<Message> up = new ArrayList<Message>();
        final ArrayList<Message> down = new ArrayList<Message>();
        final ArrayList<Kept> kept = new ArrayList<Kept>();
        int cursor = 0;
        int mark = 0;
        int revision = 0;

        End(int number) {
            this.number = number;
        }

        /** Carries out an operation of this end and sends it, or lets it wait. */
        void make(Operation operation) {
            carryOut(operation);
            cursor = operation.placeBehind();
            mark = operation.move(mark);
            if (sent.isEmpty()) {
                sent.add(operation);
                sendMessage();
            } else {
                waiting.add(operation);
            }
        }

        /** A message of this end comes back as the acknowledgement. */
        void get(Message message) {
            revision++;
            if (message.end == number) {
                sendRun();
                return;
            }
            for (int i = 0; i < message.operations.size(); i++) {
                // The history and the other end still need it as it is.
                follow(message.operations.get(i).copy());
            }
            dropNothings();
        }

        int countRuns() {
            int count = 0;
            for (int i = 0; i < waiting.size(); i++) {
                if (beginsRun(i)) {
                    count++;
                }
            }
            return count;
        }

        private void carryOut(Operation operation) {
            text.carryOut(operation);
            for (int i = 0; i < kept.size(); i++) {
                Kept one = kept.get(i);
                if (!one.inserted) {
                    one.place = operation.move(one.place);
                }
            }
        }

        /** Carries out an operation of the other end, as the own ones that it does not know let it. */
        private void follow(Operation coming) {
            Operation.transformRow(sent, coming);
            Operation.transformRow(waiting, coming);
            if (coming.kind != Operation.NOTHING) {
                carryOut(coming);
                cursor = coming.move(cursor);
                mark = coming.placeBehind();
            }
        }

        private void dropNothings() {
            for (int i = waiting.size() - 1; i >= 0; i--) {
                if (waiting.get(i).kind == Operation.NOTHING) {
                    waiting.remove(i);
                }
            }
        }

        private boolean beginsRun(int index) {
            return index == 0 || !waiting.get(index).goesOnFrom(waiting.get(index - 1));
        }

        private int firstRunSize() {
            int size = 0;
            while (size < waiting.size() && (size == 0 || !beginsRun(size))) {
                size++;
            }
            return size;
        }

        private void sendRun() {
            sent.clear();
            int size = firstRunSize();
            for (int i = 0; i < size && !waiting.isEmpty(); i++) {
                sent.add(waiting.remove(0));
            }
            if (!sent.isEmpty()) {
                sendMessage();
            }
        }

        private void sendMessage() {
            Message message = new Message(number, revision);
            for (int i = 0; i < sent.size(); i++) {
                // What is sent goes on changing here, but not under way.
                message.operations.add(sent.get(i).copy());
            }
            up.add(message);
        }
    }

    private static final class Centre {
        final Text text = new Text();
        final ArrayList<Message> history = new ArrayList<Message>();

        void enter(Message message) {
            for (int i = message.revision; i >= 0 && i < history.size(); i++) {
                transformAll(message.operations, history.get(i).operations);
            }
            text.carryOutAll(message.operations);
            history.add(message);
        }

        int countOperations() {
            int count = 0;
            for (int i = 0; i < history.size(); i++) {
                count += history.get(i).operations.size();
            }
            return count;
        }

        private static void transformAll(ArrayList<Operation> row, ArrayList<Operation> others) {
            for (int i = 0; i < others.size(); i++) {
                Operation.transformRow(row, others.get(i).copy());
            }
        }
    }

    /** Counts changes between two texts, in rows that are made once for all calls. */
    private static final class Changes {
        /** A text has no more characters than operations were made. */
        private static final int LONGEST = MOST_OPERATIONS;
        /** The diagonal 0; there is one more on each side than changes are possible. */
        private static final int MIDDLE = 2 * LONGEST + 1;

        private final int[] row = new int[LONGEST + 1];
        private final int[] farthest = new int[2 * MIDDLE + 1];

        /** Goes through the table of all beginnings, of which one row at a time is needed. */
        int byTable(Text from, Text to) {
            int columns = Math.min(to.size(), LONGEST);
            for (int j = 0; j <= columns; j++) {
                row[j] = j;
            }
            for (int i = 1; i <= from.size(); i++) {
                fillRow(from, i, to, columns);
            }
            return row[columns];
        }

        private void fillRow(Text from, int i, Text to, int columns) {
            int corner = row[0];
            row[0] = i;
            for (int j = 1; j <= columns; j++) {
                int above = row[j];
                row[j] = from.matches(i - 1, to, j - 1) ? corner : Math.min(above, row[j - 1]) + 1;
                corner = above;
            }
        }

        /** Finds how far each diagonal is reached with 0, 1, 2 and more changes. */
        int byWays(Text from, Text to) {
            int most = Math.min(from.size() + to.size(), 2 * LONGEST);
            farthest[MIDDLE + 1] = 0;
            for (int count = 0; count < most; count++) {
                if (reachesEnd(from, to, count)) {
                    return count;
                }
            }
            return most;
        }

        private boolean reachesEnd(Text from, Text to, int count) {
            for (int diagonal = -count; diagonal <= count; diagonal += 2) {
                int x = follow(from, to, diagonal, firstOn(diagonal, count));
                farthest[MIDDLE + diagonal] = x;
                if (x >= from.size() && x - diagonal >= to.size()) {
                    return true;
                }
            }
            return false;
        }

        /** Where the farther one of the two ways from beside enters a diagonal. */
        private int firstOn(int diagonal, int count) {
            int byInsertion = farthest[MIDDLE + diagonal + 1];
            int byDeletion = farthest[MIDDLE + diagonal - 1] + 1;
            if (diagonal == -count) {
                return byInsertion;
            }
            return diagonal == count || byDeletion > byInsertion ? byDeletion : byInsertion;
        }

        private int follow(Text from, Text to, int diagonal, int x) {
            int reached = x;
            while (reached < from.size() && from.matches(reached, to, reached - diagonal)) {
                reached++;
            }
            return reached;
        }
    }
}
