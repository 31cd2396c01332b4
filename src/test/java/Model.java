import java.math.BigInteger;
import java.time.DateTimeException;
import java.time.LocalDate;
import java.util.ArrayList;
import java.util.Comparator;
import java.util.HashSet;
import java.util.LinkedHashMap;
import java.util.List;
import java.util.Map;
import java.util.Set;
import java.util.TreeMap;
import java.util.regex.Matcher;
import java.util.regex.Pattern;

/**
 * The document once more, in other ways than the class takes and with the Java library: records by
 * regular expressions, faults by a machine that knows what may come next, conditions by splitting.
 */
final class Model {
    static final Set<String> RESERVED = Set.of("by", "where", "and", "or", "not", "is", "null", "order", "desc");
    private static final Pattern FIELD = Pattern.compile("\"((?:[^\"]|\"\")*)\"|([^,\"\r\n]*)");
    private static final Pattern TOKEN = Pattern.compile(" *([a-z]+|[0-9-]+|'[^']*'|'[^']*$|<>|<=|>=|.)");
    private static final BigInteger LEAST = BigInteger.valueOf(Long.MIN_VALUE);
    private static final BigInteger GREATEST = BigInteger.valueOf(Long.MAX_VALUE);

    /** A cell: its text, null if it is missing. */
    record Cell(String text, boolean quoted) {
    }

    record Piece(String text, int place) {
    }

    List<String> names = null;
    List<List<Cell>> rows = null;
    List<Integer> types = null;
    List<Piece> pieces = new ArrayList<>();
    int fault = -1;
    /** What line() tells, null without an answer. */
    List<Integer> lines = null;
    /** What aggregate() tells, as a text. */
    List<String> aggregates = null;
    boolean ofTexts = false;
    String written = null;

    // The table.

    String load(String text) {
        List<List<Cell>> records = new ArrayList<>();
        int at = 0;
        while (at < text.length()) {
            List<Cell> record = new ArrayList<>();
            at = readRecord(text, at, record);
            if (at < 0) {
                return "throws.IllegalArgumentException";
            }
            records.add(record);
        }
        Set<Integer> widths = new HashSet<>();
        records.forEach(r -> widths.add(r.size()));
        if (widths.size() > 1 || widths.stream().anyMatch(w -> w > 6)) {
            return "throws.IllegalStateException";
        }
        if (records.isEmpty() || !areNames(records.get(0))) {
            return "throws.NoSuchElementException";
        }
        if (records.size() > 17) {
            return "throws.UnsupportedOperationException";
        }
        names = records.get(0).stream().map(Cell::text).toList();
        rows = records.subList(1, records.size());
        types = new ArrayList<>();
        for (int c = 0; c < names.size(); c++) {
            types.add(typeOf(c));
        }
        lines = null;
        aggregates = null;
        written = null;
        return String.valueOf(rows.size());
    }

    private static int readRecord(String text, int from, List<Cell> record) {
        int at = from;
        while (true) {
            Matcher field = FIELD.matcher(text).region(at, text.length());
            if (!field.lookingAt()) {
                return -1;
            }
            String quoted = field.group(1);
            String plain = field.group(2);
            if (quoted == null) {
                record.add(new Cell(plain.isEmpty() ? null : plain, false));
            } else {
                record.add(new Cell(quoted.replace("\"\"", "\""), true));
            }
            at = field.end();
            if (at == text.length()) {
                return at;
            }
            if (text.startsWith("\r\n", at)) {
                return at + 2;
            }
            if (text.charAt(at) == '\n') {
                return at + 1;
            }
            if (text.charAt(at) != ',') {
                return -1;
            }
            at++;
        }
    }

    private static boolean areNames(List<Cell> header) {
        Set<String> seen = new HashSet<>();
        for (Cell cell : header) {
            if (cell.text() == null || !cell.text().matches("[a-z]{1,6}") || cell.text().contains("\n")
                    || RESERVED.contains(cell.text()) || !seen.add(cell.text())) {
                return false;
            }
        }
        return true;
    }

    static boolean isWhole(String text) {
        if (!text.matches("0|-?[1-9][0-9]*") || text.endsWith("\n") || text.endsWith("\r")) {
            return false;
        }
        BigInteger number = new BigInteger(text);
        return number.compareTo(LEAST) >= 0 && number.compareTo(GREATEST) <= 0;
    }

    static boolean isDate(String text) {
        if (!Pattern.matches("[0-9]{4}-[0-9]{2}-[0-9]{2}", text) || text.startsWith("0000")) {
            return false;
        }
        try {
            LocalDate.of(Integer.parseInt(text.substring(0, 4)), Integer.parseInt(text.substring(5, 7)),
                    Integer.parseInt(text.substring(8)));
            return true;
        } catch (DateTimeException e) {
            return false;
        }
    }

    private int typeOf(int column) {
        List<Cell> there = rows.stream().map(r -> r.get(column)).filter(c -> c.text() != null).toList();
        boolean plain = there.stream().noneMatch(Cell::quoted);
        if (plain && there.stream().allMatch(c -> isWhole(c.text()) && new BigInteger(c.text()).bitLength() < 32)) {
            return 0;
        }
        if (plain && there.stream().allMatch(c -> isWhole(c.text()))) {
            return 1;
        }
        return plain && there.stream().allMatch(c -> isDate(c.text())) ? 2 : 3;
    }

    String text(int row, int column) {
        return rows.get(row).get(column).text();
    }

    static long valueOf(String text) {
        if (isDate(text)) {
            LocalDate date = LocalDate.parse(text);
            return 10000L * date.getYear() + 100L * date.getMonthValue() + date.getDayOfMonth();
        }
        return Long.parseLong(text);
    }

    private String shown(String text, int column) {
        if (text == null) {
            return "";
        }
        boolean marks = text.isEmpty() || text.matches("(?s).*[,\"\r\n].*") || isWhole(text) || isDate(text);
        return types.get(column) == 3 && marks ? '"' + text.replace("\"", "\"\"") + '"' : text;
    }

    String writtenRows(List<Integer> numbers) {
        StringBuilder out = new StringBuilder(String.join(",", names)).append('\n');
        for (int row : numbers) {
            List<String> cells = new ArrayList<>();
            for (int c = 0; c < names.size(); c++) {
                cells.add(shown(text(row, c), c));
            }
            out.append(String.join(",", cells)).append('\n');
        }
        return out.toString();
    }

    List<Integer> allRows() {
        List<Integer> all = new ArrayList<>();
        for (int r = 0; r < rows.size(); r++) {
            all.add(r);
        }
        return all;
    }

    // The question.

    private enum Next { START, ROWS, OPEN, NAME_OF, CLOSE, AGGREGATE, BY, GROUPED, PART, NAMED, IS, OPERAND, JOINED, ORDER, ORDERED, DONE }

    String ask(String question) {
        lines = null;
        aggregates = null;
        written = null;
        if (names == null) {
            return "throws.IllegalStateException";
        }
        pieces = new ArrayList<>();
        Matcher token = TOKEN.matcher(question);
        int at = 0;
        while (token.region(at, question.length()).lookingAt()) {
            if (!token.group(1).equals(" ")) {
                pieces.add(new Piece(token.group(1), token.start(1)));
            }
            at = token.end();
        }
        fault = faultOf(question.length());
        return fault >= 0 ? "throws.IllegalArgumentException" : answer();
    }

    /** nest has an n for each not and a ( for each ( that is open. */
    private int faultOf(int length) {
        Next next = Next.START;
        StringBuilder nest = new StringBuilder();
        String first = "";
        int left = -1;
        for (Piece piece : pieces) {
            String t = piece.text();
            boolean rowsAsked = first.equals("rows");
            Next to = null;
            switch (next) {
                case START -> {
                    first = t;
                    to = t.equals("rows") ? Next.ROWS : t.equals("count") ? Next.AGGREGATE
                            : Set.of("sum", "least", "most").contains(t) ? Next.OPEN : null;
                }
                case ROWS -> to = t.equals("where") ? Next.PART : t.equals("order") ? Next.ORDER : null;
                case OPEN -> to = t.equals("(") ? Next.NAME_OF : null;
                case NAME_OF -> to = names.contains(t) && (!first.equals("sum") || types.get(names.indexOf(t)) < 2) ? Next.CLOSE : null;
                case CLOSE -> to = t.equals(")") ? Next.AGGREGATE : null;
                case AGGREGATE -> to = t.equals("by") ? Next.BY : t.equals("where") ? Next.PART : null;
                case BY -> to = names.contains(t) ? Next.GROUPED : null;
                case GROUPED -> to = t.equals("where") ? Next.PART : null;
                case PART -> {
                    if (t.equals("not") || t.equals("(")) {
                        nest.append(t.charAt(0));
                        to = nest.length() > 8 ? null : Next.PART;
                    } else {
                        left = names.indexOf(t);
                        to = left >= 0 ? Next.NAMED : null;
                    }
                }
                case NAMED -> to = t.equals("is") ? Next.IS : Set.of("=", "<>", "<", "<=", ">", ">=").contains(t) ? Next.OPERAND : null;
                case IS -> to = t.equals("null") ? ended(nest) : null;
                case OPERAND -> to = sortOf(t).equals(sortOf(names.get(left))) ? ended(nest) : null;
                case JOINED -> {
                    if (t.equals("and") || t.equals("or")) {
                        to = Next.PART;
                    } else if (t.equals(")") && nest.length() > 0) {
                        nest.setLength(nest.length() - 1);
                        to = ended(nest);
                    } else if (t.equals("order") && rowsAsked && nest.length() == 0) {
                        to = Next.ORDER;
                    }
                }
                case ORDER -> to = names.contains(t) ? Next.ORDERED : null;
                case ORDERED -> to = t.equals("desc") ? Next.DONE : null;
                default -> to = null;
            }
            if (to == null) {
                return piece.place();
            }
            next = to;
        }
        boolean whole = Set.of(Next.ROWS, Next.AGGREGATE, Next.GROUPED, Next.ORDERED, Next.DONE).contains(next)
                || next == Next.JOINED && nest.length() == 0;
        return whole ? -1 : length;
    }

    /** A part that ends, ends the nots before it. */
    private static Next ended(StringBuilder nest) {
        while (nest.length() > 0 && nest.charAt(nest.length() - 1) == 'n') {
            nest.setLength(nest.length() - 1);
        }
        return Next.JOINED;
    }

    private String sortOf(String token) {
        if (names.contains(token)) {
            return List.of("number", "number", "date", "text").get(types.get(names.indexOf(token)));
        }
        if (token.startsWith("'")) {
            return token.length() > 1 && token.endsWith("'") ? "text" : "none";
        }
        return isWhole(token) ? "number" : isDate(token) ? "date" : "none";
    }

    private String answer() {
        List<String> words = pieces.stream().map(Piece::text).toList();
        boolean ofRows = words.get(0).equals("rows");
        boolean plain = ofRows || words.get(0).equals("count");
        int at = plain ? 1 : 4;
        int column = plain ? -1 : names.indexOf(words.get(2));
        int key = -1;
        if (!ofRows && at < words.size() && words.get(at).equals("by")) {
            key = names.indexOf(words.get(at + 1));
            at += 2;
        }
        boolean falling = ofRows && words.size() > 1 && words.get(words.size() - 1).equals("desc");
        int order = words.lastIndexOf("order");
        int end = ofRows && order > 0 ? order : words.size();
        key = ofRows && order > 0 ? names.indexOf(words.get(order + 1)) : key;
        List<Integer> chosen = new ArrayList<>();
        for (int row = 0; row < rows.size(); row++) {
            if (at >= end || Boolean.TRUE.equals(truth(words.subList(at + 1, end), row))) {
                chosen.add(row);
            }
        }
        if (ofRows) {
            if (key >= 0) {
                Comparator<Integer> byKey = byCell(key);
                chosen.sort(falling ? byKey.reversed() : byKey);
            }
            lines = chosen;
            written = writtenRows(chosen);
            return String.valueOf(chosen.size());
        }
        return putTogether(words.get(0), column, key, chosen);
    }

    private Comparator<Integer> byCell(int column) {
        return (a, b) -> compare(text(a, column), text(b, column), types.get(column) == 3);
    }

    /** Missing ones first. */
    private static int compare(String a, String b, boolean texts) {
        if (a == null || b == null) {
            return Boolean.compare(a != null, b != null);
        }
        return texts ? a.compareTo(b) : Long.compare(valueOf(a), valueOf(b));
    }

    private String putTogether(String word, int column, int key, List<Integer> chosen) {
        Map<String, List<Integer>> groups = new LinkedHashMap<>();
        if (key < 0) {
            groups.put("all", chosen);
        } else {
            boolean texts = types.get(key) == 3;
            Map<String, List<Integer>> sorted = new TreeMap<>((a, b) -> compare(a, b, texts));
            chosen.forEach(row -> sorted.computeIfAbsent(text(row, key), k -> new ArrayList<>()).add(row));
            groups.putAll(sorted);
        }
        List<Integer> counts = new ArrayList<>();
        List<String> values = new ArrayList<>();
        StringBuilder out = new StringBuilder(key < 0 ? "" : names.get(key) + ",").append(word).append('\n');
        ofTexts = column >= 0 && types.get(column) == 3;
        for (Map.Entry<String, List<Integer>> group : groups.entrySet()) {
            String found = word.equals("count") ? String.valueOf(group.getValue().size()) : found(word, column, group.getValue());
            if (found != null && found.equals("beyond")) {
                return "throws.UnsupportedOperationException";
            }
            counts.add(group.getValue().size());
            values.add(ofTexts ? "throws.IllegalStateException" : found == null ? "throws.NoSuchElementException" : String.valueOf(valueOf(found)));
            out.append(key < 0 ? "" : shown(group.getKey(), key) + ",");
            out.append(column < 0 ? found : shown(found, column)).append('\n');
        }
        lines = counts;
        aggregates = values;
        written = out.toString();
        return String.valueOf(counts.size());
    }

    private String found(String word, int column, List<Integer> group) {
        List<String> cells = new ArrayList<>();
        group.forEach(row -> cells.add(text(row, column)));
        cells.removeIf(c -> c == null);
        if (cells.isEmpty()) {
            return null;
        }
        if (!word.equals("sum")) {
            cells.sort((a, b) -> compare(a, b, types.get(column) == 3));
            return cells.get(word.equals("least") ? 0 : cells.size() - 1);
        }
        BigInteger sum = BigInteger.ZERO;
        for (String cell : cells) {
            sum = sum.add(new BigInteger(cell));
            if (sum.compareTo(LEAST) < 0 || sum.compareTo(GREATEST) > 0) {
                return "beyond";
            }
        }
        return sum.toString();
    }

    // Conditions: TRUE, FALSE, or null for unknown.

    private Boolean truth(List<String> words, int row) {
        List<List<String>> any = split(words, "or");
        if (any.size() > 1) {
            List<Boolean> truths = new ArrayList<>();
            any.forEach(part -> truths.add(truth(part, row)));
            return truths.contains(Boolean.TRUE) ? Boolean.TRUE : truths.contains(null) ? null : Boolean.FALSE;
        }
        List<List<String>> all = split(words, "and");
        if (all.size() > 1) {
            List<Boolean> truths = new ArrayList<>();
            all.forEach(part -> truths.add(truth(part, row)));
            return truths.contains(Boolean.FALSE) ? Boolean.FALSE : truths.contains(null) ? null : Boolean.TRUE;
        }
        if (words.get(0).equals("not")) {
            Boolean truth = truth(words.subList(1, words.size()), row);
            return truth == null ? null : Boolean.valueOf(!truth);
        }
        if (words.get(0).equals("(")) {
            return truth(words.subList(1, words.size() - 1), row);
        }
        return compared(words, row);
    }

    private static List<List<String>> split(List<String> words, String at) {
        List<List<String>> parts = new ArrayList<>();
        int open = 0;
        int from = 0;
        for (int i = 0; i < words.size(); i++) {
            open += words.get(i).equals("(") ? 1 : words.get(i).equals(")") ? -1 : 0;
            if (open == 0 && words.get(i).equals(at)) {
                parts.add(words.subList(from, i));
                from = i + 1;
            }
        }
        parts.add(words.subList(from, words.size()));
        return parts;
    }

    private Boolean compared(List<String> words, int row) {
        String left = text(row, names.indexOf(words.get(0)));
        if (words.get(1).equals("is")) {
            return left == null;
        }
        String other = words.get(2);
        String right = names.contains(other) ? text(row, names.indexOf(other))
                : other.startsWith("'") ? other.substring(1, other.length() - 1) : other;
        if (left == null || right == null) {
            return null;
        }
        int order = compare(left, right, types.get(names.indexOf(words.get(0))) == 3);
        return switch (words.get(1)) {
            case "=" -> order == 0;
            case "<>" -> order != 0;
            case "<" -> order < 0;
            case "<=" -> order <= 0;
            case ">" -> order > 0;
            default -> order >= 0;
        };
    }
}
