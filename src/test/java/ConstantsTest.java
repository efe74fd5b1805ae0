public final class ConstantsTest {
    public static void main(String[] args) {
        if (EchoFolk.BAD != -1000000001) System.exit(1);
    }
}
