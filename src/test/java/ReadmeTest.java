import java.io.IOException;
import java.math.BigDecimal;
import java.nio.file.Files;
import java.nio.file.Path;
import java.util.List;

/** What README.md shows is what the class does; it is read from the folder that the test runs in. */
public final class ReadmeTest {
    private static final String PICTURES = "| picture | usage | number | its bytes |";
    private static final String MOVES = "| from | its bytes | to | bytes then |";

    private ReadmeTest() {
    }

    public static void main(String[] args) throws IOException {
        List<String> lines = Files.readAllLines(Path.of("README.md"));
        example();
        Checks.due("rows of pictures", checkRows(lines, PICTURES), 13);
        Checks.due("rows of moves", checkRows(lines, MOVES), 7);
        Checks.finish("ReadmeTest");
    }

    private static void example() {
        PictureFields x = Checks.with("S9(3)V99", 1);
        Checks.due("example: declare", Checks.declare(x, "$$$,$$9.99-", 0), "1");
        x.put(0, -123456, 3);
        x.move(0, 1);
        Checks.due("example: bytes", Checks.bytes(x, 1), "   $123.45-");
        Checks.due("example: get", x.get(1, 3), 36);
        Checks.due("example: value", x.value(1), -12345L);
    }

    /** Checks the rows of the table with that head: how many there are. */
    private static int checkRows(List<String> lines, String head) {
        int first = lines.indexOf(head) + 2;
        int row = first;
        while (row < lines.size() && lines.get(row).startsWith("|")) {
            String[] cells = lines.get(row).split("\\|");
            if (head.equals(PICTURES)) {
                checkPicture(cells);
            } else {
                checkMove(cells);
            }
            row++;
        }
        return row - first;
    }

    private static void checkPicture(String[] cells) {
        PictureFields x = Checks.with(written(cells[1]), Integer.parseInt(written(cells[2])));
        BigDecimal number = new BigDecimal(written(cells[3]));
        x.put(0, number.unscaledValue().longValueExact(), number.scale());
        Checks.due("put " + number + " to " + written(cells[1]), shown(x, 0, written(cells[4])), written(cells[4]));
    }

    private static void checkMove(String[] cells) {
        PictureFields x = Checks.with(written(cells[1]));
        String row = written(cells[1]) + " to " + written(cells[3]);
        Checks.due(row, Checks.declare(x, written(cells[3]), 0), "1");
        String bytes = written(cells[2]);
        Checks.setAll(x, 0, bytes.substring(1, bytes.length() - 1));
        Checks.due(row + ": bytes before", shown(x, 0, bytes), bytes);
        String want = written(cells[4]);
        boolean moved = Checks.outcome(() -> x.move(0, 1)).equals(Checks.DONE);
        Checks.due(row, moved ? shown(x, 1, want) : "refused", want);
    }

    /** A cell's text without the marks of code. */
    private static String written(String cell) {
        String text = cell.trim();
        return text.startsWith("`") ? text.substring(1, text.length() - 1) : text;
    }

    /** The bytes in the form of the given ones: characters in quotes, or hexadecimal digits. */
    private static String shown(PictureFields x, int field, String form) {
        return form.startsWith("\"") ? '"' + Checks.bytes(x, field) + '"' : Checks.hex(x, field);
    }
}
