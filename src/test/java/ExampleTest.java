import java.io.IOException;
import java.nio.file.Files;
import java.nio.file.Path;

/** README's example: that it stands there as it is here, and answers what its comments say. */
public final class ExampleTest {
    private final FlueStack stack = new FlueStack();
    private final String readme;

    private ExampleTest() throws IOException {
        readme = Files.readString(Path.of("README.md"));
    }

    public static void main(String[] args) throws IOException {
        new ExampleTest().calls();
        Due.finish("ExampleTest");
    }

    private void calls() {
        String text = "size 7 6; beam 2 3 3; cold 0 0; hearth 0 3 20; hearth 1 1 10;";
        Due.due("README tells the text", readme.contains("write(stack, \"" + text + "\");") ? 1 : 0, 1);
        for (int i = 0; i < text.length(); i++) {
            stack.type(text.charAt(i), 1);
        }
        line("wall()", stack.wall(), 2);
        line("many(0)", stack.many(0), 148);
        line("one(0, -1)", stack.one(0, -1), 1);
        line("together(3, 0)", stack.together(3, 0), 3);
        line("judge(0)", stack.judge(0), 2);
        line("take(3)", stack.take(3), 1);
        line("judge(0)", stack.judge(0), -9);
        line("draw(0, 0)", stack.draw(0, 0), 19);
        line("mend(0)", stack.mend(0), 1);
    }

    private void line(String call, long got, long want) {
        Due.due("README: " + call, got, want);
        boolean told = readme.replaceAll(" +", " ").contains("println(stack." + call + "); // " + want);
        Due.due("README tells " + call, told ? 1 : 0, 1);
    }
}
