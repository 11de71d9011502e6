import java.io.IOException;
import java.lang.reflect.Method;
import java.nio.file.Files;
import java.nio.file.Path;
import java.util.regex.Matcher;
import java.util.regex.Pattern;

/** The calls that README.md shows answer what it says. */
public final class ReadmeTest {
    private static final Pattern ROW = Pattern.compile("x\\.(\\w+)\\((.*)\\); +// (-?\\d+)(:.*)?");

    public static void main(String[] args) throws IOException, ReflectiveOperationException {
        RoomTrees x = new RoomTrees();
        int rows = 0;
        int wrong = 0;
        for (String line : Files.readAllLines(Path.of("README.md"))) {
            Matcher row = ROW.matcher(line);
            if (row.matches()) {
                rows++;
                int answer = call(x, row.group(1), row.group(2));
                if (answer != Integer.parseInt(row.group(3))) {
                    wrong++;
                    System.out.println("README.md: " + line + " but it answered " + answer);
                }
            } else if (line.startsWith("x.")) {
                wrong++;
                System.out.println("README.md: no call and answer: " + line);
            }
        }
        System.out.println(rows + " calls of README.md, " + wrong + " wrong");
        if (wrong != 0 || rows == 0) {
            System.exit(1);
        }
    }

    private static int call(RoomTrees x, String name, String numbers) throws ReflectiveOperationException {
        String[] told = numbers.isEmpty() ? new String[0] : numbers.split(", ");
        for (Method m : RoomTrees.class.getMethods()) {
            if (m.getName().equals(name) && m.getParameterCount() == told.length) {
                Object[] given = new Object[told.length];
                for (int i = 0; i < given.length; i++) {
                    long number = Long.decode(told[i].replace("L", ""));
                    if (m.getParameterTypes()[i] == long.class) {
                        given[i] = number;
                    } else {
                        given[i] = (int) number;
                    }
                }
                return (Integer) m.invoke(x, given);
            }
        }
        throw new NoSuchMethodException(name);
    }
}
